theorem wd_116 : Cond.classLink RL 7 RX7 ∈ zW := zW_in (List.mem_of_getElem? (i := 116) (by decide +kernel)) (by decide +kernel)
theorem wd_117 : Cond.instantiable RX7 8 ∈ zW := zW_in (List.mem_of_getElem? (i := 117) (by decide +kernel)) (by decide +kernel)
theorem wd_118 : Cond.methodLink RL 9 yX7_init ∈ zW := zW_in (List.mem_of_getElem? (i := 118) (by decide +kernel)) (by decide +kernel)
theorem wd_119 : Cond.instanceMethod yX7_init ∈ zW := zW_in (List.mem_of_getElem? (i := 119) (by decide +kernel)) (by decide +kernel)
theorem wd_120 : Cond.code yX7_init cX7_init 1 none ∈ zW := zW_in (List.mem_of_getElem? (i := 120) (by decide +kernel)) (by decide +kernel)
theorem wd_831 : Cond.classLink RL 10 RX8 ∈ zW := zW_in (List.mem_of_getElem? (i := 831) (by decide +kernel)) (by decide +kernel)
theorem wd_832 : Cond.instantiable RX8 23 ∈ zW := zW_in (List.mem_of_getElem? (i := 832) (by decide +kernel)) (by decide +kernel)
theorem wd_833 : Cond.methodLink RL 12 yX8_init ∈ zW := zW_in (List.mem_of_getElem? (i := 833) (by decide +kernel)) (by decide +kernel)
theorem wd_834 : Cond.instanceMethod yX8_init ∈ zW := zW_in (List.mem_of_getElem? (i := 834) (by decide +kernel)) (by decide +kernel)
theorem wd_835 : Cond.code yX8_init cX8_init 1 none ∈ zW := zW_in (List.mem_of_getElem? (i := 835) (by decide +kernel)) (by decide +kernel)
theorem dd_L_law_0 : decode cL_law 0 = .ok (.new 7, 3) := by decide +kernel
theorem dd_L_law_3 : decode cL_law 3 = .ok (.dup, 1) := by decide +kernel
theorem dd_L_law_4 : decode cL_law 4 = .ok (.invokespecial 9, 3) := by decide +kernel
theorem dd_L_law_7 : decode cL_law 7 = .ok (.astore_n 1, 1) := by decide +kernel
theorem dd_L_law_8 : decode cL_law 8 = .ok (.new 10, 3) := by decide +kernel
theorem dd_L_law_11 : decode cL_law 11 = .ok (.dup, 1) := by decide +kernel
theorem dd_L_law_12 : decode cL_law 12 = .ok (.invokespecial 12, 3) := by decide +kernel
theorem dd_L_law_15 : decode cL_law 15 = .ok (.astore_n 2, 1) := by decide +kernel
theorem dd_L_law_16 : decode cL_law 16 = .ok (.iconst 0, 1) := by decide +kernel
theorem dd_L_law_17 : decode cL_law 17 = .ok (.istore_n 3, 1) := by decide +kernel
/-! the start: classes, texts, statics -/
set_option maxRecDepth 10000 in
theorem st_K {args : Array Value} {s : State} (hts : ∀ w ∈ zW, w.before args s = true) (hO : va_AO "ScrapedRoll$Roll" s) : ∃ (D : va_G) (cy : Nat → ClassId), va_K D vwCl (zty cy) s := by
  obtain ⟨c0, i0, k0⟩ := u_known (C := RX0) (T := TX0) (N := 5) (n := 5) hts zi_X0 (hts _ wd_177)
  obtain ⟨c1, i1, k1⟩ := u_known (C := RX2) (T := TX2) (N := 3) (n := 3) hts zi_X2 (hts _ wd_125)
  obtain ⟨c2, i2, k2⟩ := u_known (C := RX3) (T := TX3) (N := 7) (n := 7) hts zi_X3 (hts _ wd_131)
  obtain ⟨c3, i3, k3⟩ := u_known (C := RX4) (T := TX4) (N := 2) (n := 2) hts zi_X4 (hts _ wd_162)
  obtain ⟨c4, i4, k4⟩ := u_known (C := RX5) (T := TX5) (N := 6) (n := 6) hts zi_X5 (hts _ wd_242)
  obtain ⟨c5, i5, k5⟩ := u_known (C := RX6) (T := TX6) (N := 5) (n := 5) hts zi_X6 (hts _ wd_217)
  obtain ⟨c6, i6, k6⟩ := u_known (C := RX7) (T := TX7) (N := 8) (n := 8) hts zi_X7 (hts _ wd_117)
  obtain ⟨c7, i7, k7⟩ := u_known (C := RX8) (T := TX8) (N := 23) (n := 23) hts zi_X8 (hts _ wd_832)
  obtain ⟨a0, ka0, co0, e0, f0, g0⟩ := Cond.arrayClass_spec (hts _ wd_160)
  obtain ⟨a1, ka1, co1, e1, f1, g1⟩ := Cond.arrayClass_spec (hts _ wd_270)
  obtain ⟨a2, ka2, co2, e2, f2, g2⟩ := Cond.arrayClass_spec (hts _ wd_910)
  obtain ⟨co3, a3, ka3, d3, -, f3, g3, e3⟩ := Cond.arrayOver_spec hO
  refine ⟨(fun k => [c0, c1, c2, c3, c4, c5, c6, c7].getD k c0, fun k => [i0, i1, i2, i3, i4, i5, i6, i7].getD k i0), fun k => [a0, a1, a2, a3].getD k a0, ?_, ?_⟩
  · intro c q hq
    match c, hq with
    | 0, hq => cases (show some (RX0, TX0, 5) = some q from hq); exact k0
    | 1, hq => cases (show some (RX2, TX2, 3) = some q from hq); exact k1
    | 2, hq => cases (show some (RX3, TX3, 7) = some q from hq); exact k2
    | 3, hq => cases (show some (RX4, TX4, 2) = some q from hq); exact k3
    | 4, hq => cases (show some (RX5, TX5, 6) = some q from hq); exact k4
    | 5, hq => cases (show some (RX6, TX6, 5) = some q from hq); exact k5
    | 6, hq => cases (show some (RX7, TX7, 8) = some q from hq); exact k6
    | 7, hq => cases (show some (RX8, TX8, 23) = some q from hq); exact k7
    | n + 8, hq => cases (show none = some q from hq)
  · intro k q hq
    match k, hq with
    | 0, hq => cases (show some (a0, FieldType.int) = some q from hq); exact ⟨fun n z => ⟨fun k h => (by cases h), ka0, f0, co0, g0⟩, e0⟩
    | 1, hq => cases (show some (a1, FieldType.byte) = some q from hq); exact ⟨fun n z => ⟨fun k h => (by cases h), ka1, f1, co1, g1⟩, e1⟩
    | 2, hq => cases (show some (a2, FieldType.boolean) = some q from hq); exact ⟨fun n z => ⟨fun k h => (by cases h), ka2, f2, co2, g2⟩, e2⟩
    | 3, hq => cases (show some (a3, FieldType.object "ScrapedRoll$Roll") = some q from hq); exact ⟨fun n z => ⟨fun k h => (by cases h), ka3, f3, co3, g3⟩, ⟨ka3, co3, f3, g3, d3, e3⟩⟩
    | n + 4, hq => cases (show none = some q from hq)
theorem st_N {args : Array Value} {s : State} (hts : ∀ w ∈ lw_tbl, w.before args s = true) : zNW s := fun w hw => by
  have h1 := (List.mem_filter.mp hw).2
  have h2 := hts w (List.mem_filter.mp hw).1
  cases w <;> first | exact va_Nw.of rfl h2 | (simp [zisN] at h1)
def adB (b t : Nat) (adK adV : Nat → Nat) : Nat × Nat → Nat := fun r => if r.1 = 31 then b else if r.1 = 30 then t else if r.2 = 0 then adK (r.1 - 20) else adV (r.1 - 20)
set_option maxRecDepth 10000 in
theorem st_E {b : Nat} {s : State} (hts : ∀ w ∈ lw_tbl, w.before #[Value.ref b] s = true) (hgv : (Jvm.Cond.and given_1 narrow_1).before #[Value.ref b] s = true) : ∃ adS : Nat × Nat → Nat, (∀ o, adS (31, o) = b) ∧ zE adS (fun q => s.heap.size ≤ q) s := by
  have hs := flat_of_before _ hgv
  have hA : ∀ a : Nat, a < s.heap.size → ¬ s.heap.size ≤ a := fun a h => Nat.not_le.mpr h
  have c4 : ∀ {i : Nat}, i < 4 → i = 0 ∨ i = 1 ∨ i = 2 ∨ i = 3 := fun h => by omega
  obtain ⟨adK, adV, hS, htm⟩ := vk_Sof (args := #[Value.ref b]) (s := s) (N := 4) (tm := fun i => .string RX1 (zsix.getD i 0)) (len := zslen) (byt := zsbyt) (A := fun q => s.heap.size ≤ q)
    (fun i hi => by rcases c4 hi with rfl | rfl | rfl | rfl <;> decide)
    (fun i hi => by rcases c4 hi with rfl | rfl | rfl | rfl <;> exact hs _ (by decide +kernel))
    (fun i hi => by rcases c4 hi with rfl | rfl | rfl | rfl <;> exact hs _ (by decide +kernel))
    (fun i hi => by rcases c4 hi with rfl | rfl | rfl | rfl <;> exact hs _ (by decide +kernel))
    (fun i hi => by rcases c4 hi with rfl | rfl | rfl | rfl <;> exact hs _ (by decide +kernel))
    (fun i hi j hj => by
      rcases c4 hi with rfl | rfl | rfl | rfl
      · have hj : j < 4 := hj
        rcases (show j = 0 ∨ j = 1 ∨ j = 2 ∨ j = 3 by omega) with rfl | rfl | rfl | rfl <;> exact hs _ (by decide +kernel)
      · have hj : j < 5 := hj
        rcases (show j = 0 ∨ j = 1 ∨ j = 2 ∨ j = 3 ∨ j = 4 by omega) with rfl | rfl | rfl | rfl | rfl <;> exact hs _ (by decide +kernel)
      · have hj : j < 3 := hj
        rcases (show j = 0 ∨ j = 1 ∨ j = 2 by omega) with rfl | rfl | rfl <;> exact hs _ (by decide +kernel)
      · have hj : j < 5 := hj
        rcases (show j = 0 ∨ j = 1 ∨ j = 2 ∨ j = 3 ∨ j = 4 by omega) with rfl | rfl | rfl | rfl | rfl <;> exact hs _ (by decide +kernel))
    (fun i j hi hj hne => by
      rcases c4 hi with rfl | rfl | rfl | rfl <;> rcases c4 hj with rfl | rfl | rfl | rfl <;> first | exact absurd rfl hne | exact Or.inl (hs _ (by decide +kernel)) | exact Or.inr (hs _ (by decide +kernel)))
    hA
  have hC : va_Z "java/lang/String" "COMPACT_STRINGS" "Z" (.int 1) (fun q => s.heap.size ≤ q) s s.heap := va_Zof (hts _ (List.mem_of_getElem? (i := 455) (by decide +kernel))) (hts _ (List.mem_of_getElem? (i := 111) (by decide +kernel))) (va_eqi (hs _ (by decide +kernel))) hA
  have hF : va_Zq "jdk/internal/util/Preconditions" "SIOOBE_FORMATTER" "Ljava/util/function/BiFunction;" (fun q => s.heap.size ≤ q) s s.heap := va_Zqof (hts _ (List.mem_of_getElem? (i := 471) (by decide +kernel))) (hts _ (List.mem_of_getElem? (i := 113) (by decide +kernel))) (hs _ (by decide +kernel)) hA
  have key : ∀ t : Nat, (va_Z "jdk/internal/util/Preconditions" "SIOOBE_FORMATTER" "Ljava/util/function/BiFunction;" .null (fun q => s.heap.size ≤ q) s s.heap ∨ va_Z "jdk/internal/util/Preconditions" "SIOOBE_FORMATTER" "Ljava/util/function/BiFunction;" (.ref t) (fun q => s.heap.size ≤ q) s s.heap) → ∃ adS : Nat × Nat → Nat, (∀ o, adS (31, o) = b) ∧ zE adS (fun q => s.heap.size ≤ q) s := fun t ht => by
    have e0 : ∀ i, i < 4 → adB b t adK adV (20 + i, 0) = adK i := fun i hi => by
      show (if 20 + i = 31 then b else if 20 + i = 30 then t else if 0 = 0 then adK (20 + i - 20) else adV (20 + i - 20)) = _
      rw [if_neg (by omega), if_neg (by omega), if_pos rfl, Nat.add_sub_cancel_left]
    have e1 : ∀ i, i < 4 → adB b t adK adV (20 + i, 1) = adV i := fun i hi => by
      show (if 20 + i = 31 then b else if 20 + i = 30 then t else if 1 = 0 then adK (20 + i - 20) else adV (20 + i - 20)) = _
      rw [if_neg (by omega), if_neg (by omega), if_neg (by omega), Nat.add_sub_cancel_left]
    refine ⟨adB b t adK adV, fun o => rfl, ⟨fun i hi => ?_, fun i j hi hj e => ?_⟩, fun i hi => ?_, hC, ?_⟩
    · have h9 := hS.1 i hi
      show va_O "java/lang/String" (adB b t adK adV (20 + i, 0)) _ _ _ ∧ va_OF "java/lang/String" "coder" "B" (.int 0) (adB b t adK adV (20 + i, 0)) _ _ _ ∧ va_OF "java/lang/String" "value" "[B" (.ref (adB b t adK adV (20 + i, 1))) (adB b t adK adV (20 + i, 0)) _ _ _ ∧ va_T .byte (adB b t adK adV (20 + i, 1)) (zslen.getD i 0) (fun j => .int ((zsbyt.getD i []).getD j 0)) _ _ _
      rw [e0 i hi, e1 i hi]
      exact h9
    · have e : adB b t adK adV (20 + i, 0) = adB b t adK adV (20 + j, 0) := e
      rw [e0 i hi, e0 j hj] at e
      exact hS.2 i j hi hj e
    · rw [e0 i hi]
      have h9 := htm i hi
      rcases c4 hi with rfl | rfl | rfl | rfl
      · exact vk_R.of (hts _ (List.mem_of_getElem? (i := 441) (by decide +kernel))) h9
      · exact vk_R.of (hts _ (List.mem_of_getElem? (i := 501) (by decide +kernel))) h9
      · exact vk_R.of (hts _ (List.mem_of_getElem? (i := 511) (by decide +kernel))) h9
      · exact vk_R.of (hts _ (List.mem_of_getElem? (i := 517) (by decide +kernel))) h9
    · exact ht
  rcases hF with h | ⟨t, h⟩
  · exact key 0 (Or.inl h)
  · exact key t (Or.inr h)
/-! two worlds told as one -/
def ckV (ok : Nat → Bool) (v : zV) : Bool := match v with
  | .inr (.inr (.inl r)) => ok r.1
  | _ => true
def ckC (ok : Nat → Bool) (q : (Nat × Nat) × zCS) : Bool := ok q.1.1 && (match q.2 with
  | .inr (.inl o) => o.2.all (ckV ok)
  | _ => true)
theorem zce_cg {cy : Nat → ClassId} {ad ad' : Nat × Nat → Nat} {bl bl' : zBl} {M M' : zM} {ok : Nat → Bool} (h1 : ∀ t o, ok t = true → ad' (t, o) = ad (t, o)) (h2 : ∀ t, ok t = true → M'.1 t = M.1 t ∧ M'.2 t = M.2 t) (hz : zim bl' ad' = zim bl ad) {r : Nat × Nat} {cs : zCS} (hc : ckC ok (r, cs) = true) : ad' r = ad r ∧ zce cy ad' bl' M' r cs = zce cy ad bl M r cs := by
  unfold ckC at hc
  rw [Bool.and_eq_true] at hc
  obtain ⟨g1, g2⟩ := hc
  have g1' : ok r.1 = true := g1
  refine ⟨h1 r.1 r.2 g1', ?_⟩
  rcases cs with q | o | u
  · show (Sum.inl (cy q.1, q.2, Sum.inl (M'.1 r.1 r.2)) : va_E) = Sum.inl (cy q.1, q.2, Sum.inl (M.1 r.1 r.2))
    rw [(h2 _ g1').1]
  · show (Sum.inr (o.1, o.2.mapIdx (fun i v => zfv ad' M' r i v)) : va_E) = Sum.inr (o.1, o.2.mapIdx (fun i v => zfv ad M r i v))
    have e : o.2.mapIdx (fun i v => zfv ad' M' r i v) = o.2.mapIdx (fun i v => zfv ad M r i v) := by
      apply List.ext_getElem?
      intro i
      rw [List.getElem?_mapIdx, List.getElem?_mapIdx]
      cases hv : o.2[i]? with
      | none => rfl
      | some v =>
        have hm := List.all_eq_true.mp g2 v (List.mem_of_getElem? hv)
        rcases v with y | y | y | y
        · show some (Value.int (M'.1 r.1 r.2 i)) = some (Value.int (M.1 r.1 r.2 i))
          rw [(h2 _ g1').1]
        · show some (Value.long (M'.2 r.1 i)) = some (Value.long (M.2 r.1 i))
          rw [(h2 _ g1').2]
        · show some (Value.ref (ad' y)) = some (Value.ref (ad y))
          rw [show ad' y = ad y from h1 y.1 y.2 hm]
        · rfl
    rw [e]
  · show (Sum.inl (cy 3, 2, .inr (.inr (.inr (.inr (zim bl' ad'))))) : va_E) = Sum.inl (cy 3, 2, .inr (.inr (.inr (.inr (zim bl ad)))))
    rw [hz]
theorem zmap_cg {cy : Nat → ClassId} {ad ad' : Nat × Nat → Nat} {bl bl' : zBl} {M M' : zM} {ok : Nat → Bool} (h1 : ∀ t o, ok t = true → ad' (t, o) = ad (t, o)) (h2 : ∀ t, ok t = true → M'.1 t = M.1 t ∧ M'.2 t = M.2 t) (hz : zim bl' ad' = zim bl ad) (hc : ∀ q ∈ zsl bl, ckC ok q = true) : (zsl bl).map (fun q => (ad' q.1, zce cy ad' bl' M' q.1 q.2)) = zwl cy ad bl M := by
  unfold zwl
  refine List.map_congr_left (fun q hq => ?_)
  obtain ⟨r, cs⟩ := q
  obtain ⟨g1, g2⟩ := zce_cg (cy := cy) h1 h2 hz (hc _ hq)
  show (ad' r, zce cy ad' bl' M' r cs) = (ad r, zce cy ad bl M r cs)
  rw [g1, g2]
def lo9 (t : Nat) : Bool := Nat.blt t 9
def adF (ad1 ad2 : Nat × Nat → Nat) : Nat × Nat → Nat := fun r => bif lo9 r.1 then ad1 r else ad2 r
def MF (M1 M2 : zM) : zM := (fun t => bif lo9 t then M1.1 t else M2.1 t, fun t => bif lo9 t then M1.2 t else M2.2 t)
theorem b0_no (j : Nat) : ¬ zkd b0 (10 + 4 * j) = 2 := by
  rw [zkd_no (fun q hq => by
    have : q.1 ≤ 9 := by revert q; decide
    omega)]
  decide
theorem bl9_no (j : Nat) : ¬ zkd bl9 (10 + 4 * j) = 2 := by
  rw [zkd_no (fun q hq => by
    have : q.1 ≤ 9 := by revert q; decide
    omega)]
  decide
set_option maxRecDepth 10000 in
theorem zwl_F {cy : Nat → ClassId} {ad1 ad2 : Nat × Nat → Nat} {M1 M2 : zM} : zwl cy (adF ad1 ad2) b0 (MF M1 M2) = zwl cy ad1 bl7 M1 ++ zwl cy ad2 bl9 M2 := by
  have z0 : zim b0 (adF ad1 ad2) = fun _ => none := zim_no (fun j => b0_no j)
  show (zsl (bl7 ++ bl9)).map _ = _
  rw [zsl_app, List.map_append]
  refine congr (congrArg HAppend.hAppend ?_) ?_
  · exact zmap_cg (ok := lo9) (fun t o h => by show (bif lo9 t then _ else _) = _; rw [h]; rfl) (fun t h => ⟨by show (bif lo9 t then _ else _) = _; rw [h]; rfl, by show (bif lo9 t then _ else _) = _; rw [h]; rfl⟩) (by rw [z0, zim_no (fun j => bl7_no j)]) (by decide +kernel)
  · exact zmap_cg (ok := fun t => !(lo9 t)) (fun t o h => by show (bif lo9 t then _ else _) = _; rw [Bool.not_eq_true'] at h; rw [h]; rfl) (fun t h => by rw [Bool.not_eq_true'] at h; exact ⟨by show (bif lo9 t then _ else _) = _; rw [h]; rfl, by show (bif lo9 t then _ else _) = _; rw [h]; rfl⟩) (by rw [z0, zim_no (fun j => bl9_no j)]) (by decide +kernel)
theorem RpX_0 {M2 : zM} : RpX (zkd b0) (MF M7 M2) st0 := by
  have hS : RpS (fun _ _ => 0) sk_0 := ⟨ok_sk0, fun c hc => ⟨rfl, fun i l hl => by simp [sk_0] at hl⟩, rfl⟩
  have hT : RpT (fun _ _ => 0) [] := ⟨by simp, rfl, fun i z h => by simp at h⟩
  have hL : RpL (fun _ _ => 0) [] := ⟨by simp, rfl, fun i z h => by simp at h⟩
  have hB : RpB (fun _ _ => 0) [] := ⟨by simp, rfl, fun i z h => by simp at h⟩
  refine ⟨⟨hS, ⟨[], hT, ⟨rfl, fun b h => (List.not_mem_nil h).elim, fun i w b a' h => (by simp at h)⟩⟩, hL⟩, fun j hj => ⟨⟨fun h => (by cases h), fun h => absurd h (b0_no j)⟩, fun r hr => (by cases hr)⟩, hB, ⟨rfl, rfl⟩, fun n hn => ?_⟩
  rfl
/-! from the entry to the loop -/
set_option maxRecDepth 20000 in
set_option maxHeartbeats 4000000 in
theorem whole_start {p : Program} {e : Env} {s : State} {m : MethodId} {below : List Frame} {meth : Method} {c : Code} (l : Launch) {b L : Nat} {xs : Nat → Int32} (hL : L ≤ 320) (C0 : lw_At p s m meth c b L xs) : W p l e room_1 s m #[Value.ref b] below meth c s.heap [] 0 0 (lw_Z below #[Value.ref b] s) (entryFrame m ([Value.ref b] : List Value).toArray 4) := by
  obtain ⟨hx, hb, hr, hml, hown, hts0, hX, hbl, hlocks, hgv⟩ := C0
  have hb : c.code = cL_law := hb
  have hown : s.vm.findClass RL = some m.cls := hown
  have hts : ∀ w ∈ zW, w.before #[Value.ref b] s = true := fun w hw => hts0 w (List.mem_filter.mp hw).1
  have hO : va_AO "ScrapedRoll$Roll" s := va_AO.of (hts0 _ (List.mem_of_getElem? (i := 213) (by decide +kernel)))
  obtain ⟨D, cy, hK⟩ := st_K hts hO
  obtain ⟨adS, h31, hE⟩ := st_E hts0 hgv
  have hN := st_N hts0
  have hl := lv_entry ([.ref b]) (n := 4) (Nat.le_of_ble_eq_true rfl)
  rw [lg_entry_eq]
  generalize (lg_sl ([.ref b]) ++ List.replicate (4 - (lg_sl ([.ref b])).length) Slot.unset).toArray = ls at hl ⊢
  have hl : lv_has ls 4 [(0, .ref b)] := hl
  have hA : ∀ q : Nat, s.heap.size ≤ q → (fun q => s.heap.size ≤ q) q := fun q h => h
  have hP : va_P D vwCl [] s.heap := fun k q h => by simp at h
  have hD : va_D (fun q => s.heap.size ≤ q) [] := ⟨fun i j p q h => by simp at h, fun k q h => by simp at h⟩
  have hS : va_S (fun q => s.heap.size ≤ q) s.heap s.heap [] := va_S.rf
  refine va_new (ci := 6) (fs := [.null, .null, .null, .null, .null, .null, .long 0, .long 0]) (C := RX7) (T := TX7) (N := 8) hx hb hts zi_X7 tyX7 tyX7_ok hown (hts _ wd_116) (hts _ wd_117) (hts _ wd_100) hK hP hD hS hA rfl (fun j hj => by rcases (show j = 0 ∨ j = 1 ∨ j = 2 ∨ j = 3 ∨ j = 4 ∨ j = 5 ∨ j = 6 ∨ j = 7 by omega) with rfl | rfl | rfl | rfl | rfl | rfl | rfl | rfl <;> rfl) (Nat.le_of_ble_eq_true rfl) (Nat.le_of_ble_eq_true rfl) dd_L_law_0 (fun q H hP hD hS => ?_)
  refine W.widen (k := 1) (n := 8) (Nat.le_of_ble_eq_true rfl) (Nat.le_of_ble_eq_true rfl) ?_
  have hP : va_P D vwCl [(q, .inr (6, [.null, .null, .null, .null, .null, .null, .long 0, .long 0]))] H := hP
  have hD : va_D (fun q => s.heap.size ≤ q) [(q, .inr (6, [.null, .null, .null, .null, .null, .null, .long 0, .long 0]))] := hD
  refine lv_dup hx hb dd_L_law_3 rfl ?_
  have hFc : ∀ q', va_A [(q, .inr (6, [.null, .null, .null, .null, .null, .null, .long 0, .long 0]))] H.size q' → s.heap.size ≤ q' := fun q' h => by
    rcases h with ⟨k, x, h⟩ | h
    · exact hD.2 k (q', x) h
    · exact Nat.le_trans hS.1 h
  refine va_callv (va_runI (As := []) (rest := [.ref q]) ⟨hx, hb, hml, hown, hts⟩ (ci_X7 l D cy q H.size) (cwI 0 hts (zgi (fun _ h => h) wd_120) rfl rfl rfl (hts _ wd_100) (hts _ wd_118) (hts _ wd_119) rfl (by decide +kernel) ⟨Nat.le_of_ble_eq_true rfl, Nat.le_of_ble_eq_true rfl⟩) ⟨ciP_blind, fun U hU hW => ⟨rfl, by rw [hU], by rw [hU]; exact hP, va_K.moved hW.alike hK, hD.weaken (fun _ _ _ _ => trivial), zNW_warm hW hN, va_AO.moved hW.alike hO⟩⟩ rfl rfl hl.1 rfl (lv_room (Nat.le_of_ble_eq_true rfl)) dd_L_law_4 ⟨Nat.le_of_ble_eq_true rfl, Nat.le_of_ble_eq_true rfl⟩) hS (fun q _ h => hFc q h) hFc (fun _ t H1 locs ht hvm _ hB9 hz1 hk1 hS => ?_)
  unfold ciB_X7 at hB9
  obtain ⟨ad1, ha0, hP1, hD1⟩ := hB9
  rw [ht] at hP1
  have hD1 : va_D (fun q => s.heap.size ≤ q) (zwl cy ad1 bl7 M7) := hD1.weaken (fun k q _ h => hFc q.1 h)
  generalize H1 = H at hP1 hS ⊢
  refine W.widen (k := 36) (n := 619) (Nat.le_of_ble_eq_true rfl) (Nat.le_of_ble_eq_true rfl) ?_
  refine lv_astore_n (lv' := [(1, .ref q), (0, .ref b)]) hx hb dd_L_law_7 rfl hl (by decide) rfl (fun ls hl => ?_)
  refine va_new (ci := 7) (fs := [.null, .null, .null, .null, .long 0, .long 0, .null, .int 0, .int 0, .null, .int 0, .int 0, .null, .null, .int 0, .null, .int 0, .int 0, .int 0, .int 0, .int 0, .null, .null]) (C := RX8) (T := TX8) (N := 23) hx hb hts zi_X8 tyX8 tyX8_ok hown (hts _ wd_831) (hts _ wd_832) (hts _ wd_107) hK hP1 hD1 hS hA rfl (fun j hj => by rcases (show j = 0 ∨ j = 1 ∨ j = 2 ∨ j = 3 ∨ j = 4 ∨ j = 5 ∨ j = 6 ∨ j = 7 ∨ j = 8 ∨ j = 9 ∨ j = 10 ∨ j = 11 ∨ j = 12 ∨ j = 13 ∨ j = 14 ∨ j = 15 ∨ j = 16 ∨ j = 17 ∨ j = 18 ∨ j = 19 ∨ j = 20 ∨ j = 21 ∨ j = 22 by omega) with rfl | rfl | rfl | rfl | rfl | rfl | rfl | rfl | rfl | rfl | rfl | rfl | rfl | rfl | rfl | rfl | rfl | rfl | rfl | rfl | rfl | rfl | rfl <;> rfl) (Nat.le_of_ble_eq_true rfl) (Nat.le_of_ble_eq_true rfl) dd_L_law_8 (fun q2 H hP hD hS => ?_)
  refine W.widen (k := 37) (n := 642) (Nat.le_of_ble_eq_true rfl) (Nat.le_of_ble_eq_true rfl) ?_
  refine lv_dup hx hb dd_L_law_11 rfl ?_
  have hPc := va_Pr hP
  have hDc := va_Dr hD
  have hFc2 : ∀ q', va_A [(q2, .inr (7, [.null, .null, .null, .null, .long 0, .long 0, .null, .int 0, .int 0, .null, .int 0, .int 0, .null, .null, .int 0, .null, .int 0, .int 0, .int 0, .int 0, .int 0, .null, .null]))] H.size q' → s.heap.size ≤ q' := fun q' h => by
    rcases h with ⟨k, x, h⟩ | h
    · exact hDc.2 k (q', x) h
    · exact Nat.le_trans hS.1 h
  refine va_callv (va_runI (As := []) (rest := [.ref q2]) ⟨hx, hb, hml, hown, hts⟩ (ci_X8 l D cy adS q2 H.size) (cwI 0 hts (zgi (fun _ h => h) wd_835) rfl rfl rfl (hts _ wd_107) (hts _ wd_833) (hts _ wd_834) rfl (by decide +kernel) ⟨Nat.le_of_ble_eq_true rfl, Nat.le_of_ble_eq_true rfl⟩) ⟨ciP8_blind, fun U hU hW => ⟨rfl, by rw [hU], by rw [hU]; exact hPc, va_K.moved hW.alike hK, hDc.weaken (fun _ _ _ _ => trivial), zNW_warm hW hN, zE_go hW hU hS hFc2 hE⟩⟩ rfl rfl hl.1 rfl (lv_room (Nat.le_of_ble_eq_true rfl)) dd_L_law_12 ⟨Nat.le_of_ble_eq_true rfl, Nat.le_of_ble_eq_true rfl⟩) hS (fun q _ h => hFc2 q h) hFc2 (fun _ t H1 locs ht hvm _ hB9 hz1 hk1 hS => ?_)
  unfold ciB_X8 at hB9
  obtain ⟨L9, M9', ha9, hP9, hD9, hRM⟩ := hB9
  rw [ht] at hP9
  obtain ⟨hP, hD⟩ := join_app hP hD hk1 hFc2 hP9 hD9
  rw [← zwl_F] at hP hD
  generalize H1 = H at hP hS ⊢
  refine W.widen (k := 48) (n := 4342) (Nat.le_of_ble_eq_true rfl) (Nat.le_of_ble_eq_true rfl) ?_
  refine lv_astore_n (lv' := [(2, .ref q2), (1, .ref q), (0, .ref b)]) hx hb dd_L_law_15 rfl hl (by decide) rfl (fun ls hl => ?_)
  refine lv_iconst (v := 0) hx hb dd_L_law_16 (by decide) ?_
  refine lv_istore_n (lv' := [(3, .int 0), (2, .ref q2), (1, .ref q), (0, .ref b)]) hx hb dd_L_law_17 rfl hl (by decide) rfl (fun ls hl => ?_)
  have hge : ∀ t o, 20 ≤ t → adF ad1 (ad9 L9 adS) (t, o) = adS (t, o) := fun t o h => by
    have h9 : lo9 t = false := by
      cases hb9 : lo9 t with
      | false => rfl
      | true => have := Nat.le_of_ble_eq_true hb9; omega
    show (bif lo9 t then _ else _) = _
    rw [h9]
    exact ad9_ge t o h
  have C1 : zCtx p l e room_1 s m #[Value.ref b] below meth c D cy (fun q => s.heap.size ≤ q) (adF ad1 (ad9 L9 adS)) b0 4 48 4342 (lw_Z below #[Value.ref b] s) RL cL_law (60 + 1) := ⟨hx, hb, hml, hown, hts, hK, fun M' => zwl_D M' hD, hA, hN, zE_cg (fun t o h => hge t o h) hE, ⟨Nat.le_of_ble_eq_true rfl, Nat.le_of_ble_eq_true rfl⟩, Nat.le_of_ble_eq_true rfl, Nat.le_of_ble_eq_true rfl⟩
  refine law_loop hX hbl hL hr hlocks hO 65 0 48 4342 (adF ad1 (ad9 L9 adS)) b0 0 st0 (MF M7 M9') C1 (fun o => by rw [hge 31 o (by omega)]; exact h31 o) (Or.inl rfl) RpX_0 (hRM.f9 ⟨rfl, rfl⟩) rfl (by omega) (by omega) (by omega) (by omega) H locs ls rfl hP hS ?_
  show lv_has ls 4 [(0, .ref (adF ad1 (ad9 L9 adS) (31, 0))), (1, .ref (adF ad1 (ad9 L9 adS) (0, 0))), (2, .ref (adF ad1 (ad9 L9 adS) (9, 0))), (3, .int 0)]
  rw [hge 31 0 (by omega), h31, show adF ad1 (ad9 L9 adS) (0, 0) = q from ha0, show adF ad1 (ad9 L9 adS) (9, 0) = q2 from ha9]
  exact lv_sub hl [3, 2, 1, 0] rfl
