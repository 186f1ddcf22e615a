theorem wd_732 : Cond.constant RJ6 265 1431655765 ∈ zW := zW_in (List.mem_of_getElem? (i := 732) (by decide +kernel)) (by decide +kernel)
theorem wd_733 : Cond.constant RJ6 266 858993459 ∈ zW := zW_in (List.mem_of_getElem? (i := 733) (by decide +kernel)) (by decide +kernel)
theorem wd_734 : Cond.constant RJ6 267 252645135 ∈ zW := zW_in (List.mem_of_getElem? (i := 734) (by decide +kernel)) (by decide +kernel)
