section AMm
def zt_aald (kd : Nat → Nat) (nx : Nat) : zT := fun X ls st M => match st with
  | .inl i :: .inr (.inr (.inl (t, o))) :: r => kd t = 1 ∧ o = 1 ∧ vp_in i 2 ∧ (kd (10 + 4 * i.toNatClampNeg) = 2 → X nx ls (zR (10 + 4 * i.toNatClampNeg) 0 :: r) M) ∧ (¬ kd (10 + 4 * i.toNatClampNeg) = 2 → X nx ls (zN :: r) M)
  | _ => False
variable {p : Program} {l : Launch} {e : Env} {R : Room} {s : State} {m : MethodId} {args : Array Value} {below : List Frame} {meth : Method} {c : Code} {D : va_G} {cy : Nat → ClassId} {A : Nat → Prop} {ad : Nat × Nat → Nat} {bl : zBl} {nL ce so : Nat} {Qm : State → Prop} {cc : ByteArray} {pc : Nat}
theorem ok_aald (hx : p.tables.exec = Jvm.exec) (hb : c.code = cc) (hK : va_K D vwCl (zty cy) s) (hdg : decode cc pc = .ok (.aaload, 1)) : zOk p l e R s m args below meth c D cy A ad bl nL ce so Qm pc (zt_aald (zkd bl) (pc + 1)) := by
  intro X hX ls st M h H locs arr hn hP hS hl
  unfold zt_aald at h
  split at h
  · rename_i i t o r
    obtain ⟨hk, rfl, hin, h1, h2⟩ := h
    have hm := zsl_mem (bl := bl) (t := t) (o := 1) hk (by decide)
    obtain ⟨q0, -, hq⟩ := zwl_at (cy := cy) (ad := ad) hm
    refine va_aldq hx hb hK hP q0 3 (hq M) rfl hin hdg ?_
    by_cases h5 : zkd bl (10 + 4 * i.toNatClampNeg) = 2
    · rw [show zim bl ad i.toNatClampNeg = some (ad (10 + 4 * i.toNatClampNeg, 0)) from if_pos h5]
      exact hX _ _ _ _ (h1 h5) H locs arr hn hP hS hl
    · rw [show zim bl ad i.toNatClampNeg = none from if_neg h5]
      exact hX _ _ _ _ (h2 h5) H locs arr hn hP hS hl
  · exact h.elim
/-! returns -/
theorem ok_iret {K : zK} (hx : p.tables.exec = Jvm.exec) (hb : c.code = cc) (hr : meth.sig.returnType = some .int) (hlocks : meth.locks = false) (hQ : Qm = MQ below (zQ D cy ad bl K A) args s ce so A) (hdg : decode cc pc = .ok (.ireturn, 1)) : zOk p l e R s m args below meth c D cy A ad bl nL ce so Qm pc (zt_iret K) := by
  intro X hX ls st M h H locs arr hn hP hS hl
  unfold zt_iret at h
  split at h
  · subst hQ
    exact W.iret hx hb hr (fun t ht hW => ⟨⟨_, M, rfl, h, by rw [ht]; exact hP⟩, hS.F ht⟩) hS.2.2 hdg hlocks
  · exact h.elim
theorem ok_zret {K : zK} (hx : p.tables.exec = Jvm.exec) (hb : c.code = cc) (hr : meth.sig.returnType = some .boolean) (hlocks : meth.locks = false) (hQ : Qm = MQ below (zQ D cy ad bl K A) args s ce so A) (hdg : decode cc pc = .ok (.ireturn, 1)) : zOk p l e R s m args below meth c D cy A ad bl nL ce so Qm pc (zt_zret K) := by
  intro X hX ls st M h H locs arr hn hP hS hl
  unfold zt_zret at h
  split at h
  · subst hQ
    refine W.zret hx hb hr ?_ (fun t ht hW => ⟨⟨_, M, rfl, h.2, by rw [ht]; exact hP⟩, hS.F ht⟩) hS.2.2 hdg hlocks
    rcases h.1 with rfl | rfl <;> rfl
  · exact h.elim
theorem ok_lret {K : zK} (hx : p.tables.exec = Jvm.exec) (hb : c.code = cc) (hr : meth.sig.returnType = some .long) (hlocks : meth.locks = false) (hQ : Qm = MQ below (zQ D cy ad bl K A) args s ce so A) (hdg : decode cc pc = .ok (.lreturn, 1)) : zOk p l e R s m args below meth c D cy A ad bl nL ce so Qm pc (zt_lret K) := by
  intro X hX ls st M h H locs arr hn hP hS hl
  unfold zt_lret at h
  split at h
  · subst hQ
    exact W.lret hx hb hr (fun t ht hW => ⟨⟨_, M, rfl, h, by rw [ht]; exact hP⟩, hS.F ht⟩) hS.2.2 hdg hlocks
  · exact h.elim
theorem ok_vret {K : zK} (hx : p.tables.exec = Jvm.exec) (hb : c.code = cc) (hr : meth.sig.returnType = none) (hlocks : meth.locks = false) (hQ : Qm = MQ below (zQ D cy ad bl K A) args s ce so A) (hdg : decode cc pc = .ok (.return_, 1)) : zOk p l e R s m args below meth c D cy A ad bl nL ce so Qm pc (zt_vret K) := by
  intro X hX ls st M h H locs arr hn hP hS hl
  unfold zt_vret at h
  split at h
  · subst hQ
    exact W.vret hx hb hr (fun t ht hW => ⟨⟨none, M, rfl, h, by rw [ht]; exact hP⟩, hS.F ht⟩) hS.2.2 hdg hlocks
  · exact h.elim
end AMm
/-! entry -/
def zent : List zV → zLS
  | [] => []
  | v :: r => bif zc2 v then some v :: none :: zent r else some v :: zent r
theorem zent_len (ad : Nat × Nat → Nat) : ∀ as : List zV, (lg_sl (as.map (zcv ad))).length = (zent as).length
  | [] => rfl
  | v :: r => by
    have ih := zent_len ad r
    unfold lg_sl at ih ⊢
    rw [List.map_cons, List.flatMap_cons, List.length_append, ih, zcv_cat]
    show _ = (bif zc2 v then some v :: none :: zent r else some v :: zent r).length
    cases zc2 v <;> simp <;> omega
theorem zent_args (ad : Nat × Nat → Nat) : ∀ (as : List zV) (i j : Nat) (v : zV), (zent as)[j]? = some (some v) → (i + j, zcv ad v) ∈ lv_args i (as.map (zcv ad))
  | [], _, _, _, h => by simp [zent] at h
  | w :: r, i, j, v, h => by
    rw [List.map_cons]
    unfold lv_args
    rw [zcv_cat]
    unfold zent at h
    cases hw : zc2 w with
    | true =>
      rw [hw] at h
      match j, h with
      | 0, h => simp at h; subst h; exact List.mem_cons_self
      | 1, h => simp at h
      | j + 2, h =>
        have h' : (zent r)[j]? = some (some v) := by simpa using h
        have := zent_args ad r (i + 2) j v h'
        refine List.mem_cons_of_mem _ ?_
        simp only [if_true]
        rw [show i + (j + 2) = i + 2 + j by omega]
        exact this
    | false =>
      rw [hw] at h
      match j, h with
      | 0, h => simp at h; subst h; exact List.mem_cons_self
      | j + 1, h =>
        have h' : (zent r)[j]? = some (some v) := by simpa using h
        have := zent_args ad r (i + 1) j v h'
        refine List.mem_cons_of_mem _ ?_
        simp only [Bool.false_eq_true, if_false]
        rw [show i + (j + 1) = i + 1 + j by omega]
        exact this
def zentry (as : List zV) (n : Nat) : zLS := zent as ++ List.replicate (n - (zent as).length) none
theorem zentry_has {ad : Nat × Nat → Nat} {as : List zV} {n : Nat} {arr : Array Slot} (hl : lv_has arr n (lv_args 0 (as.map (zcv ad)))) : lv_has arr n (zlsl ad (zentry as n)) := by
  refine ⟨hl.1, hl.2.1, fun q hq => hl.2.2 q ?_⟩
  obtain ⟨j, w⟩ := q
  obtain ⟨v, hv, rfl⟩ := zlsl_mem.mp hq
  have h : (zent as)[j]? = some (some v) := by
    unfold zentry at hv
    rw [List.getElem?_append] at hv
    split at hv
    · exact hv
    · rw [List.getElem?_replicate] at hv
      split at hv <;> simp at hv
  have := zent_args ad as 0 j v h
  rwa [Nat.zero_add] at this
/-- the pure claim of a body: whatever is closed under its runs holds at its entry -/
def zMeets (tab : zTab) (cut : zCut) (ls : zLS) (M : zM) : Prop := ∀ X : zX, (∀ (n pc : Nat) (ls : zLS) (st : List zV) (M : zM), zrun tab cut n X pc ls st M → X pc ls st M) → X 0 ls [] M
/-- a body's table tells the truth in every context -/
def zTrue (own : String) (cc : ByteArray) (n : Nat) (ret : Option FieldType) (d : Nat) (tab : (Nat → Nat) → zK → zTab) : Prop :=
  ∀ (p : Program) (l : Launch) (e : Env) (R : Room) (s : State) (m : MethodId) (args : Array Value) (below : List Frame) (meth : Method) (c : Code) (D : va_G) (cy : Nat → ClassId) (A : Nat → Prop) (ad : Nat × Nat → Nat) (bl : zBl) (Qm : State → Prop) (K : zK), zCtx p l e R s m args below meth c D cy A ad bl n 0 0 Qm own cc d → meth.sig.returnType = ret → meth.locks = false → Qm = MQ below (zQ D cy ad bl K A) args s 0 0 A → ∀ q ∈ tab (zkd bl) K, zOk p l e R s m args below meth c D cy A ad bl n 0 0 Qm q.1 q.2
theorem zmethod {y : MethodName} {cc : ByteArray} {n : Nat} {ret : Option FieldType} {d : Nat} {sp : zSpec} {tab : (Nat → Nat) → zK → zTab} {cut : zCut} (hy : plainName y.cls = true) (hT : zTrue y.cls cc n ret d tab)
    (hm : ∀ kd as M K, sp kd as M K → (zent as).length ≤ n ∧ zMeets (tab kd K) cut (zentry as n) M) : zMet d y cc n ret sp := by
  intro l D cy ad bl as M K sz hsp
  refine Met.ofW (cc := cc) (maxL := n) (ret := ret) (ws := zws y cc n ret) (ws' := zW) hy rfl ?_
  intro p e s m args below meth c s₁ B hml hv
  obtain ⟨rfl, hsz, hP, hK, hD0, hN, hE⟩ := hv
  have hts := atoms_spec (ws := zws y cc n ret) B.pre
  have hown : s.vm.findClass y.cls = some m.cls := findClass_of_methodNamed B.named
  subst hsz
  have hD1 := hD0.self (sz := s.heap.size)
  have hD : ∀ M', va_D (va_A (zwl cy ad bl M) s.heap.size) (zwl cy ad bl M') := fun M' => zwl_D M' hD1
  generalize hAe : va_A (zwl cy ad bl M) s.heap.size = A at hD hE ⊢
  have hA : ∀ q : Nat, s.heap.size ≤ q → A q := fun q h => by rw [← hAe]; exact Or.inr h
  obtain ⟨hlen, hmeets⟩ := hm _ _ _ _ hsp
  have hl := lv_entry (as.map (zcv ad)) (n := n) (by rw [zent_len]; exact hlen)
  rw [lg_entry_eq]
  have C0 : zCtx p l e (headSpec (zws y cc n ret) (zroom d)).room s m (as.map (zcv ad)).toArray below meth c D cy A ad bl n 0 0 (MQ below (zQ D cy ad bl K A) (as.map (zcv ad)).toArray s 0 0 A) y.cls cc d := ⟨B.exec, B.bytes, hml, hown, fun w hw => hts w (List.mem_cons_of_mem _ hw), hK, hD, hA, hN, hE, ⟨Nat.le_refl _, Nat.le_refl _⟩, Nat.zero_le _, Nat.zero_le _⟩
  have hok := hT p l e _ s m _ below meth c D cy A ad bl _ K C0 B.returns B.notSynchronized rfl
  have hfin := hmeets _ (fun n' pc' ls st M' h => zrun_ok hok (fun _ _ _ _ h => h) n' pc' ls st M' h)
  refine hfin s.heap [] _ ?_ hP va_S.rf (zentry_has hl)
  unfold zentry
  rw [List.length_append, List.length_replicate]
  omega
