/-! an image that is made: four blocks more -/
def img (j : Nat) : zBl := [(10 + 4 * j, 2), (11 + 4 * j, 3), (12 + 4 * j, 4), (13 + 4 * j, 5)]
def outB (j t : Nat) : Bool := Nat.blt t (10 + 4 * j) || Nat.ble (14 + 4 * j) t
theorem outB_iff {j t : Nat} : outB j t = true ↔ (t < 10 + 4 * j ∨ 14 + 4 * j ≤ t) := by
  unfold outB
  rw [Bool.or_eq_true]
  constructor
  · rintro (h | h)
    · exact Or.inl (Nat.le_of_ble_eq_true h)
    · exact Or.inr (Nat.le_of_ble_eq_true h)
  · rintro (h | h)
    · exact Or.inl (Nat.ble_eq_true_of_le h)
    · exact Or.inr (Nat.ble_eq_true_of_le h)
def chV (j : Nat) (v : zV) : Bool := match v with
  | .inr (.inr (.inl r)) => outB j r.1
  | _ => true
def chC (j : Nat) (q : (Nat × Nat) × zCS) : Bool := outB j q.1.1 && (match q.2 with
  | .inr (.inl o) => o.2.all (chV j)
  | _ => true)
def isIm (cs : zCS) : Bool := match cs with
  | .inr (.inr _) => true
  | _ => false
def blk (j : Nat) (bl : zBl) : Prop := (∀ q ∈ zsl bl, chC j q = true) ∧ (zsl bl)[1]? = some ((0, 1), .inr (.inr ())) ∧ (∀ q ∈ (zsl bl).take 1, isIm q.2 = false) ∧ (∀ q ∈ (zsl bl).drop 2, isIm q.2 = false) ∧ ∀ q ∈ bl, outB j q.1 = true
def adN (j : Nat) (T : List (List Nat)) (ad : Nat × Nat → Nat) : Nat × Nat → Nat := fun r => bif outB j r.1 then ad r else (T.getD (r.1 - (10 + 4 * j)) []).getD r.2 0
def mN (j : Nat) (M : zM) : zM := (fun t => bif outB j t then M.1 t else fun _ _ => 0, M.2)
theorem adN_out {j : Nat} {T : List (List Nat)} {ad : Nat × Nat → Nat} {r : Nat × Nat} (h : outB j r.1 = true) : adN j T ad r = ad r := by unfold adN; rw [h]; rfl
theorem mN_out {j : Nat} {M : zM} {t : Nat} (h : outB j t = true) : (mN j M).1 t = M.1 t := by unfold mN; simp only; rw [h]; rfl
theorem mN_in {j : Nat} {M : zM} {t : Nat} (h : outB j t = false) : (mN j M).1 t = fun _ _ => 0 := by unfold mN; simp only; rw [h]; rfl
theorem zce_new {cy : Nat → ClassId} {ad : Nat × Nat → Nat} {bl bl' : zBl} {M : zM} {j : Nat} {T : List (List Nat)} {r : Nat × Nat} {cs : zCS} (hc : chC j (r, cs) = true) (hi : isIm cs = false) : zce cy (adN j T ad) bl' (mN j M) r cs = zce cy ad bl M r cs := by
  unfold chC at hc
  rw [Bool.and_eq_true] at hc
  obtain ⟨h1, h2⟩ := hc
  have h1' : outB j r.1 = true := h1
  rcases cs with q | o | u
  · show (Sum.inl (cy q.1, q.2, Sum.inl ((mN j M).1 r.1 r.2)) : va_E) = Sum.inl (cy q.1, q.2, Sum.inl (M.1 r.1 r.2))
    rw [mN_out h1']
  · show (Sum.inr (o.1, o.2.mapIdx (fun i v => zfv (adN j T ad) (mN j M) r i v)) : va_E) = Sum.inr (o.1, o.2.mapIdx (fun i v => zfv ad M r i v))
    have e : o.2.mapIdx (fun i v => zfv (adN j T ad) (mN j M) r i v) = o.2.mapIdx (fun i v => zfv ad M r i v) := by
      apply List.ext_getElem?
      intro i
      rw [List.getElem?_mapIdx, List.getElem?_mapIdx]
      cases hv : o.2[i]? with
      | none => rfl
      | some v =>
        have hm := List.all_eq_true.mp h2 v (List.mem_of_getElem? hv)
        rcases v with y | y | y | y
        · show some (Value.int ((mN j M).1 r.1 r.2 i)) = some (Value.int (M.1 r.1 r.2 i))
          rw [mN_out h1']
        · rfl
        · show some (Value.ref (adN j T ad y)) = some (Value.ref (ad y))
          rw [adN_out hm]
        · rfl
    rw [e]
  · cases hi
theorem blk.io {j : Nat} {bl : zBl} (h : blk j bl) {k : Nat} {q : (Nat × Nat) × zCS} (hk : (zsl bl)[k]? = some q) (h1 : k ≠ 1) : isIm q.2 = false := by
  by_cases h0 : k = 0
  · subst h0
    refine h.2.2.1 q ?_
    exact List.mem_of_getElem? (i := 0) (by rw [List.getElem?_take, if_pos (by omega)]; exact hk)
  · refine h.2.2.2.1 q ?_
    exact List.mem_of_getElem? (i := k - 2) (by rw [List.getElem?_drop, show 2 + (k - 2) = k by omega]; exact hk)
theorem zsl_app (bl x : zBl) : zsl (bl ++ x) = zsl bl ++ zsl x := by unfold zsl; rw [List.flatMap_append]
theorem zwl_new {cy : Nat → ClassId} {ad : Nat × Nat → Nat} {bl x : zBl} {M : zM} {j : Nat} {T : List (List Nat)} (hb : blk j bl) : zwl cy (adN j T ad) (bl ++ x) (mN j M) = (zwl cy ad bl M).set 1 (ad (0, 1), .inl (cy 3, 2, .inr (.inr (.inr (.inr (zim (bl ++ x) (adN j T ad))))))) ++ (zsl x).map (fun q => (adN j T ad q.1, zce cy (adN j T ad) (bl ++ x) (mN j M) q.1 q.2)) := by
  unfold zwl
  rw [zsl_app, List.map_append]
  congr 1
  apply List.ext_getElem?
  intro k
  have hl1 : 1 < (zsl bl).length := (List.getElem?_eq_some_iff.mp hb.2.1).1
  by_cases hk : k = 1
  · subst hk
    rw [List.getElem?_set_self (by rw [List.length_map]; exact hl1), List.getElem?_map, hb.2.1]
    show some (adN j T ad (0, 1), _) = _
    rw [adN_out (outB_iff.mpr (Or.inl (by show 0 < 10 + 4 * j; omega)))]
    rfl
  · rw [List.getElem?_set_ne (fun e => hk e.symm), List.getElem?_map, List.getElem?_map]
    cases hq : (zsl bl)[k]? with
    | none => rfl
    | some q =>
      obtain ⟨r, cs⟩ := q
      have hc := hb.1 (r, cs) (List.mem_of_getElem? hq)
      have hi := hb.io hq hk
      have ho : outB j r.1 = true := by
        unfold chC at hc
        rw [Bool.and_eq_true] at hc
        exact hc.1
      show some (adN j T ad r, zce cy (adN j T ad) (bl ++ x) (mN j M) r cs) = some (ad r, zce cy ad bl M r cs)
      rw [adN_out ho, zce_new hc hi]
set_option maxRecDepth 10000 in
theorem im_zw {cy : Nat → ClassId} {ad : Nat × Nat → Nat} {bl' : zBl} {M : zM} {j : Nat} (hj : j = 0 ∨ j = 1) {h0 q5 r1_q7 r1_q15 r1_q23 r1_q31 r1_q39 r1_q47 q16 r2_q7 q27 r3_q7 r3_q15 r3_q23 r3_q31 : Nat} : (zsl (img j)).map (fun q => (adN j [[h0], [q5, r1_q7, r1_q15, r1_q23, r1_q31, r1_q39, r1_q47], [q16, r2_q7], [q27, r3_q7, r3_q15, r3_q23, r3_q31]] ad q.1, zce cy (adN j [[h0], [q5, r1_q7, r1_q15, r1_q23, r1_q31, r1_q39, r1_q47], [q16, r2_q7], [q27, r3_q7, r3_q15, r3_q23, r3_q31]] ad) bl' (mN j M) q.1 q.2)) = [(h0, .inr (1, [.ref q5, .ref q16, .ref q27])), (q5, .inr (2, [.ref r1_q7, .ref r1_q15, .ref r1_q23, .ref r1_q31, .ref r1_q39, .ref r1_q47, .int 0])), (r1_q7, .inl (cy 0, 6, .inl (fun _ => 0))), (r1_q15, .inl (cy 0, 24, .inl (fun _ => 0))), (r1_q23, .inl (cy 0, 24, .inl (fun _ => 0))), (r1_q31, .inl (cy 0, 24, .inl (fun _ => 0))), (r1_q39, .inl (cy 0, 24, .inl (fun _ => 0))), (r1_q47, .inl (cy 0, 24, .inl (fun _ => 0))), (q16, .inr (3, [.ref r2_q7, .int 0])), (r2_q7, .inl (cy 0, 6, .inl (fun _ => 0))), (q27, .inr (0, [.ref r3_q7, .ref r3_q15, .ref r3_q23, .ref r3_q31, .int 0])), (r3_q7, .inl (cy 0, 6, .inl (fun _ => 0))), (r3_q15, .inl (cy 0, 6, .inl (fun _ => 0))), (r3_q23, .inl (cy 0, 6, .inl (fun _ => 0))), (r3_q31, .inl (cy 0, 6, .inl (fun _ => 0)))] := by
  rcases hj with rfl | rfl <;> rfl
/-! kinds of blocks, with four more -/
theorem zkd_app_ne {bl x : zBl} {t : Nat} (h : ∀ q ∈ x, q.1 ≠ t) : zkd (bl ++ x) t = zkd bl t := by
  induction bl with
  | nil => exact zkd_no h
  | cons b r ih =>
    show (bif Nat.beq b.1 t then b.2 else zkd (r ++ x) t) = (bif Nat.beq b.1 t then b.2 else zkd r t)
    rw [ih]
theorem zkd_app_out {bl x : zBl} {t : Nat} (h : ∀ q ∈ bl, q.1 ≠ t) : zkd (bl ++ x) t = zkd x t := by
  induction bl with
  | nil => rfl
  | cons b r ih =>
    have h1 : Nat.beq b.1 t = false := by
      cases hb : Nat.beq b.1 t with
      | false => rfl
      | true => exact absurd (Nat.eq_of_beq_eq_true hb) (h b List.mem_cons_self)
    show (bif Nat.beq b.1 t then b.2 else zkd (r ++ x) t) = _
    rw [h1]
    exact ih (fun q hq => h q (List.mem_cons_of_mem _ hq))
theorem img_ne {j t : Nat} (h : outB j t = true) : ∀ q ∈ img j, q.1 ≠ t := by
  have h' := outB_iff.mp h
  intro q hq
  simp only [img, List.mem_cons, List.not_mem_nil, or_false] at hq
  rcases hq with rfl | rfl | rfl | rfl <;> (show _ ≠ t; omega)
theorem kd_old {j t : Nat} {bl : zBl} (h : outB j t = true) : zkd (bl ++ img j) t = zkd bl t := zkd_app_ne (img_ne h)
theorem kd_newb {j : Nat} {bl : zBl} (hb : ∀ q ∈ bl, outB j q.1 = true) (d : Nat) (hd : d < 4) (hj : j = 0 ∨ j = 1) : zkd (bl ++ img j) (10 + 4 * j + d) = 2 + d := by
  rw [zkd_app_out (fun q hq e => by
    have := outB_iff.mp (hb q hq)
    rw [e] at this
    omega)]
  rcases (show d = 0 ∨ d = 1 ∨ d = 2 ∨ d = 3 by omega) with rfl | rfl | rfl | rfl <;> rcases hj with rfl | rfl <;> rfl
theorem KdX_new {j : Nat} {bl : zBl} (hj : j = 0 ∨ j = 1) (hb : ∀ q ∈ bl, outB j q.1 = true) (h : KdX (zkd bl)) : KdX (zkd (bl ++ img j)) := by
  obtain ⟨k0, k1, k2, k3, k4, k5, k6, k7, k8, ki⟩ := h
  have o : ∀ t, t < 10 → zkd (bl ++ img j) t = zkd bl t := fun t ht => kd_old (outB_iff.mpr (by omega))
  refine ⟨by rw [o 0 (by omega)]; exact k0, by rw [o 1 (by omega)]; exact k1, by rw [o 2 (by omega)]; exact k2, by rw [o 3 (by omega)]; exact k3, by rw [o 4 (by omega)]; exact k4, by rw [o 5 (by omega)]; exact k5, by rw [o 6 (by omega)]; exact k6, by rw [o 7 (by omega)]; exact k7, by rw [o 8 (by omega)]; exact k8, fun j' hj' hk => ?_⟩
  by_cases e : j' = j
  · subst e
    have h1 := kd_newb hb 1 (by omega) hj
    have h2 := kd_newb hb 2 (by omega) hj
    have h3 := kd_newb hb 3 (by omega) hj
    rw [show 11 + 4 * j' = 10 + 4 * j' + 1 by omega, show 12 + 4 * j' = 10 + 4 * j' + 2 by omega, show 13 + 4 * j' = 10 + 4 * j' + 3 by omega]
    exact ⟨h1, h2, h3⟩
  · have o2 : ∀ d, d < 4 → zkd (bl ++ img j) (10 + 4 * j' + d) = zkd bl (10 + 4 * j' + d) := fun d hd => kd_old (outB_iff.mpr (by omega))
    have e0 := o2 0 (by omega)
    have e1 := o2 1 (by omega)
    have e2 := o2 2 (by omega)
    have e3 := o2 3 (by omega)
    rw [show 10 + 4 * j' + 0 = 10 + 4 * j' by omega] at e0
    rw [show 10 + 4 * j' + 1 = 11 + 4 * j' by omega] at e1
    rw [show 10 + 4 * j' + 2 = 12 + 4 * j' by omega] at e2
    rw [show 10 + 4 * j' + 3 = 13 + 4 * j' by omega] at e3
    rw [e1, e2, e3]
    exact ki j' hj' (by rw [← e0]; exact hk)
/-! worlds side by side -/
theorem va_Pr {D : va_G} {cl : List vw_C} {w x : va_W} {H : Heap} (h : va_P D cl (w ++ x) H) : va_P D cl x H := fun k q hk => h (w.length + k) q (by rw [List.getElem?_append_right (by omega), show w.length + k - w.length = k by omega]; exact hk)
theorem va_Dr {A : Nat → Prop} {w x : va_W} (h : va_D A (w ++ x)) : va_D A x := by
  have key : ∀ (k : Nat) (q : Nat × va_E), x[k]? = some q → (w ++ x)[w.length + k]? = some q := fun k q hk => by rw [List.getElem?_append_right (by omega), show w.length + k - w.length = k by omega]; exact hk
  exact ⟨fun i j p q hi hj e => by have := h.1 _ _ p q (key i p hi) (key j q hj) e; omega, fun k q hk => h.2 _ q (key k q hk)⟩
theorem va_Dl {A : Nat → Prop} {w x : va_W} (h : va_D A (w ++ x)) : va_D A w := by
  have key : ∀ (k : Nat) (q : Nat × va_E), w[k]? = some q → (w ++ x)[k]? = some q := fun k q hk => by rw [List.getElem?_append_left (List.getElem?_eq_some_iff.mp hk).1]; exact hk
  exact ⟨fun i j p q hi hj e => h.1 _ _ p q (key i p hi) (key j q hj) e, fun k q hk => h.2 _ q (key k q hk)⟩
theorem join_app {A0 : Nat → Prop} {D : va_G} {cl : List vw_C} {w wc w1 : va_W} {H H1 : Heap} (hP : va_P D cl (w ++ wc) H) (hD : va_D A0 (w ++ wc)) (hk : ∀ q : Nat, q < H.size → ¬ va_A wc H.size q → H1[q]? = H[q]?) (hF : ∀ q, va_A wc H.size q → A0 q) (hP1 : va_P D cl w1 H1) (hD1 : va_D (va_A wc H.size) w1) : va_P D cl (w ++ w1) H1 ∧ va_D A0 (w ++ w1) := by
  have inl : ∀ (k : Nat) (q : Nat × va_E), w[k]? = some q → (w ++ wc)[k]? = some q := fun k q hk => by rw [List.getElem?_append_left (List.getElem?_eq_some_iff.mp hk).1]; exact hk
  have apart : ∀ (k : Nat) (q : Nat × va_E), w[k]? = some q → q.1 < H.size ∧ ¬ va_A wc H.size q.1 := by
    intro k q hk9
    have hlt := (hP k q (inl k q hk9)).lt
    refine ⟨hlt, ?_⟩
    rintro (⟨k', e, h'⟩ | h')
    · have h2 : (w ++ wc)[w.length + k']? = some (q.1, e) := by rw [List.getElem?_append_right (by omega), show w.length + k' - w.length = k' by omega]; exact h'
      have := hD.1 k (w.length + k') q (q.1, e) (inl k q hk9) h2 rfl
      have hl := (List.getElem?_eq_some_iff.mp hk9).1
      omega
    · omega
  refine ⟨va_P.app (va_P.kept (fun k q hk9 => hP k q (inl k q hk9)) (fun k q hk9 => hk q.1 (apart k q hk9).1 (apart k q hk9).2)) hP1, va_D.app (va_Dl hD) (hD1.weaken (fun k q hk9 h => hF q.1 h)) (fun i j p q hi hj e => ?_)⟩
  have h1 := apart i p hi
  have h2 := hD1.2 j q hj
  rw [← e] at h2
  exact h1.2 h2
/-! image -/
theorem im_rp {kd : Nat → Nat} {M M3 : zM} {st : St} {jn : Nat} {S1 S2 S3 : zB} {L : List Int} (hjn : jn < 2) (hk : kd (10 + 4 * jn) = 2) (hO : RpO M 1 st.1) (hI : ∀ j', j' < 2 → j' ≠ jn → ((st.2.1 j').isSome = true ↔ kd (10 + 4 * j') = 2) ∧ ∀ r, st.2.1 j' = some r → RpO M (10 + 4 * j') r) (hB : RpB (M.1 8) st.2.2.1) (hLg : (M.2 0 6).toInt = st.2.2.2.1.1 ∧ (M.2 0 7).toInt = st.2.2.2.1.2) (hF : ∀ n, n < 3 → M.1 0 2 n = st.2.2.2.2 n) (h1 : RpS S1 st.1.1) (h2 : RpT S2 L) (hL : okH st.1.1 L st.1.2.1) (h3 : RpL S3 st.1.2.2) (e : M3 = zbs (zbs (zbs M (10 + 4 * jn + 1) S1) (10 + 4 * jn + 2) S2) (10 + 4 * jn + 3) S3) : RpX kd M3 (st.1, fun k => if k = jn then some st.1 else st.2.1 k, st.2.2) ∧ fr9 M M3 := by
  have go : ∀ t, t ≠ 10 + 4 * jn + 1 → t ≠ 10 + 4 * jn + 2 → t ≠ 10 + 4 * jn + 3 → M3.1 t = M.1 t := fun t t1 t2 t3 => by rw [e, zbs_ne t3, zbs_ne t2, zbs_ne t1]
  have g2 : M3.2 = M.2 := by rw [e]; rfl
  have c1 : M3.1 (10 + 4 * jn + 1) = S1 := by rw [e, zbs_ne (by omega), zbs_ne (by omega), zbs_at]
  have c2 : M3.1 (10 + 4 * jn + 2) = S2 := by rw [e, zbs_ne (by omega), zbs_at]
  have c3 : M3.1 (10 + 4 * jn + 3) = S3 := by rw [e, zbs_at]
  have same : ∀ n r, (n + 3 < 10 + 4 * jn + 1 ∨ 10 + 4 * jn + 3 < n + 1) → RpO M n r → RpO M3 n r := fun n r hn h => by
    obtain ⟨q1, ⟨L', q2, q3⟩, q4⟩ := h
    exact ⟨by rw [go (n + 1) (by omega) (by omega) (by omega)]; exact q1, ⟨L', by rw [go (n + 2) (by omega) (by omega) (by omega)]; exact q2, q3⟩, by rw [go (n + 3) (by omega) (by omega) (by omega)]; exact q4⟩
  refine ⟨⟨same 1 _ (by omega) hO, fun j' hj' => ?_, by rw [go 8 (by omega) (by omega) (by omega)]; exact hB, by rw [g2]; exact hLg, fun n hn => by rw [go 0 (by omega) (by omega) (by omega)]; exact hF n hn⟩, by rw [go 9 (by omega) (by omega) (by omega)], by rw [g2]⟩
  by_cases ej : j' = jn
  · subst ej
    refine ⟨⟨fun _ => hk, fun _ => by simp⟩, fun r hr => ?_⟩
    simp at hr
    subst hr
    exact ⟨by rw [c1]; exact h1, ⟨L, by rw [c2]; exact h2, hL⟩, by rw [c3]; exact h3⟩
  · have := hI j' hj' ej
    refine ⟨?_, fun r hr => ?_⟩
    · simp only [ej, if_false]
      exact this.1
    · simp only [ej, if_false] at hr
      exact same _ _ (by omega) (this.2 r hr)
section IM
variable {p : Program} {l : Launch} {e : Env} {R : Room} {s : State} {m : MethodId} {args : Array Value} {below : List Frame} {meth : Method} {c : Code} {D : va_G} {cy : Nat → ClassId} {A : Nat → Prop} {ad : Nat × Nat → Nat} {bl : zBl} {ce so : Nat} {Qm : State → Prop}
theorem im40 (C0 : zCtx p l e R s m args below meth c D cy A ad bl 3 ce so Qm RX7 cX7_image (2 + 1)) {j : Int32} {jn : Nat} {st : St} {M : zM} (hjn : jn < 2) (hKd : KdX (zkd bl)) (hk : zkd bl (10 + 4 * jn) = 2) (hO : RpO M 1 st.1) (hI : ∀ j', j' < 2 → j' ≠ jn → ((st.2.1 j').isSome = true ↔ zkd bl (10 + 4 * j') = 2) ∧ ∀ r, st.2.1 j' = some r → RpO M (10 + 4 * j') r) (hB : RpB (M.1 8) st.2.2.1) (hLg : (M.2 0 6).toInt = st.2.2.2.1.1 ∧ (M.2 0 7).toInt = st.2.2.2.1.2) (hF : ∀ n, n < 3 → M.1 0 2 n = st.2.2.2.2 n)
    (kf : ∀ M' : zM, RpX (zkd bl) M' (st.1, fun k => if k = jn then some st.1 else st.2.1 k, st.2.2) → fr9 M M' → zAW p l e R s m args below meth c D cy A ad bl 3 ce so Qm 49 [some (zR 0 0), some (zI j), none] [zI 1] M') : zAW p l e R s m args below meth c D cy A ad bl 3 ce so Qm 40 [some (zR 0 0), some (zI j), some (zR (10 + 4 * jn) 0)] [] M := by
  obtain ⟨k0, k1, k2, k3, k4, k5, k6, k7, k8, ki⟩ := id hKd
  obtain ⟨b1, b2, b3⟩ := ki jn hjn hk
  obtain ⟨L, hT, hL⟩ := hO.2.1
  have hX := zrun_ok (cut := cu_X7_image) (tk_X7_image C0) (X := zAW p l e R s m args below meth c D cy A ad bl 3 ce so Qm) (fun _ _ _ _ h => h)
  refine vc_X7_image_40 hX k4 k3 k2 k1 (by rw [show 10 + 4 * jn + 3 = 13 + 4 * jn by omega]; exact b3) (by rw [show 10 + 4 * jn + 2 = 12 + 4 * jn by omega]; exact b2) (by rw [show 10 + 4 * jn + 1 = 11 + 4 * jn by omega]; exact b1) hk k0 ⟨by omega, st.1.1, hO.1, L, hT, st.1.2.2, hO.2.2, fun S1 h1 S2 h2 S3 h3 M1 e1 => ?_⟩
  obtain ⟨r1, r2⟩ := im_rp hjn hk hO hI hB hLg hF h1 h2 hL h3 e1
  exact kf M1 r1 r2
def imF (D : va_G) (cy : Nat → ClassId) (ad : Nat × Nat → Nat) (bl : zBl) (M : zM) (st : St) (j : Int32) (A : Nat → Prop) (v : Int32) (ad' : Nat × Nat → Nat) (bl' : zBl) (M' : zM) : Prop := v.toInt = (ev_image st j.toInt).1 ∧ RpX (zkd bl') M' (ev_image st j.toInt).2 ∧ fr9 M M' ∧ (∀ M2, va_D A (zwl cy ad' bl' M2)) ∧ ((ad' = ad ∧ bl' = bl) ∨ ∃ (jn : Nat) (T : List (List Nat)), jn < 2 ∧ ¬ zkd bl (10 + 4 * jn) = 2 ∧ ad' = adN jn T ad ∧ bl' = bl ++ img jn)
set_option maxRecDepth 20000 in
theorem im_body (C0 : zCtx p l e R s m args below meth c D cy A ad bl 3 0 0 Qm RX7 cX7_image (2 + 1)) (hO9 : va_AO "ScrapedRoll$Roll" s) (hcap : 15 ≤ R.cells ∧ 173 ≤ R.slots) {j : Int32} {st : St} {M : zM} (hR : RpX (zkd bl) M st) (hKd : KdX (zkd bl)) (hbl : ∀ jn, jn < 2 → ¬ zkd bl (10 + 4 * jn) = 2 → blk jn bl)
    (hret : ∀ (v : Int32) (pc ce so : Nat) (ad' : Nat × Nat → Nat) (bl' : zBl) (M' : zM) (H : Heap) (locs : List Loc) (arr : Array Slot), decode cX7_image pc = .ok (.ireturn, 1) → ce ≤ 15 → so ≤ 173 → imF D cy ad bl M st j A v ad' bl' M' → va_P D vwCl (zwl cy ad' bl' M') H → va_S A s.heap H locs → W p l e R s m args below meth c H locs ce so Qm (F0 m pc arr [.int v])) : zAW p l e R s m args below meth c D cy A ad bl 3 0 0 Qm 0 [some (zR 0 0), some (zI j), none] [] M := by
  obtain ⟨k0, k1, k2, k3, k4, k5, k6, k7, k8, ki⟩ := id hKd
  obtain ⟨hx, hb, hml, hown, hts, hK, hD, hA, hN, hE, ⟨hR1, hR2⟩, hc1, hc2⟩ := id C0
  have hX := zrun_ok (cut := cu_X7_image) (tk_X7_image C0) (X := zAW p l e R s m args below meth c D cy A ad bl 3 0 0 Qm) (fun _ _ _ _ h => h)
  refine vc_X7_image_0 hX k0 (fun v1 h1 => ⟨fun q => ?_, fun q => ⟨st, hR, 0, ⟨by decide, rfl⟩, fun v2 h2 M2 g2 f2 => ?_⟩⟩)
  · rw [h1, zp_n] at q
    have q' : 0 ≤ j.toInt ∧ j.toInt ≤ 1 := q
    obtain ⟨jn, hj⟩ : ∃ jn : Nat, j.toInt = jn := ⟨j.toInt.toNat, by omega⟩
    have hjn : jn < 2 := by omega
    have hj01 : jn = 0 ∨ jn = 1 := by omega
    have hjc : j.toNatClampNeg = jn := by rw [z_cl]; omega
    have hjt : j.toInt.toNat = jn := by omega
    have hvp : vp_in j 2 := vp_in_iff.mpr ⟨by omega, by omega⟩
    have hev : ev_image st j.toInt = (1, (st.1, fun k => if k = jn then some st.1 else st.2.1 k, st.2.2)) := by unfold ev_image; rw [if_pos q, hjt]
    rw [hjc]
    refine ⟨hvp, fun hk => ?_, fun hk => ?_⟩
    · refine im40 C0 hjn hKd hk hR.1 (fun j' hj' _ => hR.2.1 j' hj') hR.2.2.1 hR.2.2.2.1 hR.2.2.2.2 (fun M' r' f' => ?_)
      intro H locs arr hn hP hS hl
      exact hret 1 49 0 0 ad bl M' H locs arr dd_X7_image_49 (by omega) (by omega) ⟨by rw [hev]; rfl, by rw [hev]; exact r', f', hD, Or.inl ⟨rfl, rfl⟩⟩ hP hS
    · intro H locs arr hn hP hS hl
      have hB := hbl jn hjn hk
      have hl : lv_has arr 3 [(0, .ref (ad (0, 0))), (1, .int j)] := hl
      refine va_new (ci := 1) (fs := [.null, .null, .null]) (C := RX2) (T := TX2) (N := 3) hx hb hts zi_X2 tyX2 tyX2_ok hown (hts _ wd_124) (hts _ wd_125) (hts _ wd_101) hK hP (hD M) hS hA rfl (fun j hj => by rcases (show j = 0 ∨ j = 1 ∨ j = 2 by omega) with rfl | rfl | rfl <;> rfl) (by omega) (by omega) dd_X7_image_25 (fun q H hP hD9 hS => ?_)
      refine W.widen (k := 1) (n := 3) (by omega) (by omega) ?_
      refine lv_dup hx hb dd_X7_image_28 rfl ?_
      have hPc := va_Pr hP
      have hDc := va_Dr hD9
      have hFc : ∀ q', va_A [(q, .inr (1, [.null, .null, .null]))] H.size q' → A q' := fun q' h => by
        rcases h with ⟨k, x, h⟩ | h
        · exact hDc.2 k (q', x) h
        · exact hA q' (Nat.le_trans hS.1 h)
      refine va_callv (va_runIN (As := []) (rest := [.ref q]) ⟨hx, hb, hml, hown, hts⟩ (ci_X2 l D cy q H.size) ⟨va_cnB 0 hts (zgi (fun _ h => h) wd_128) rfl rfl rfl (hN _ nd_126) (hts _ wd_101) (by decide +kernel) ⟨by show 2 + 1 ≤ R.frames; omega, by show 8 + (1 + 11) + 80 ≤ R.locals; omega⟩, rfl, hts _ wd_127⟩ ⟨ciP_blind, fun U hU hW => ⟨rfl, by rw [hU], by rw [hU]; exact hPc, va_K.moved hW.alike hK, hDc.weaken (fun _ _ _ _ => trivial), zNW_warm hW hN, va_AO.moved hW.alike hO9⟩⟩ rfl rfl hl.1 rfl (lv_room (Nat.le_of_ble_eq_true rfl)) dd_X7_image_29 ⟨by show 1 + 14 ≤ R.cells; omega, by show 3 + 170 ≤ R.slots; omega⟩) hS (fun q _ h => hFc q h) hFc (fun _ t H1 locs ht hvm _ hB9 hz1 hk1 hS => ?_)
      unfold ciB_X2 at hB9
      obtain ⟨q5, r1_q7, r1_q15, r1_q23, r1_q31, r1_q39, r1_q47, q16, r2_q7, q27, r3_q7, r3_q15, r3_q23, r3_q31, hP1, hD1⟩ := hB9
      rw [ht] at hP1
      obtain ⟨hP, hD9⟩ := join_app hP hD9 hk1 hFc hP1 hD1
      generalize H1 = H at hP hS ⊢
      refine W.widen (k := 15) (n := 173) (Nat.le_of_ble_eq_true rfl) (Nat.le_of_ble_eq_true rfl) ?_
      refine lv_astore_n (lv' := [(2, .ref q), (0, .ref (ad (0, 0))), (1, .int j)]) hx hb dd_X7_image_32 rfl hl (by decide) rfl (fun ls hl => ?_)
      refine lv_aload_n hx hb dd_X7_image_33 rfl (lv_at hl 1 rfl) ?_
      obtain ⟨q0, fl, f1, f2, f3, f4⟩ := zobj (cy := cy) (ad := ad) zc_X7 k0
      have f1' : fl = [zR (0 + 1) 0, zR 0 1, zR (0 + 5) 0, zR (0 + 6) 0, zR (0 + 8) 0, zR 0 2, zL 0, zL 0] := by
        have e9 : (Sum.inr (Sum.inl (6, fl)) : zCS) = Sum.inr (Sum.inl (6, [zR (0 + 1) 0, zR 0 1, zR (0 + 5) 0, zR (0 + 6) 0, zR (0 + 8) 0, zR 0 2, zL 0, zL 0])) := f1.symm
        cases e9
        rfl
      have hob : (zwl cy ad bl M ++ [(q, .inr (1, [.ref q5, .ref q16, .ref q27])), (q5, .inr (2, [.ref r1_q7, .ref r1_q15, .ref r1_q23, .ref r1_q31, .ref r1_q39, .ref r1_q47, .int 0])), (r1_q7, .inl (cy 0, 6, .inl (fun _ => 0))), (r1_q15, .inl (cy 0, 24, .inl (fun _ => 0))), (r1_q23, .inl (cy 0, 24, .inl (fun _ => 0))), (r1_q31, .inl (cy 0, 24, .inl (fun _ => 0))), (r1_q39, .inl (cy 0, 24, .inl (fun _ => 0))), (r1_q47, .inl (cy 0, 24, .inl (fun _ => 0))), (q16, .inr (3, [.ref r2_q7, .int 0])), (r2_q7, .inl (cy 0, 6, .inl (fun _ => 0))), (q27, .inr (0, [.ref r3_q7, .ref r3_q15, .ref r3_q23, .ref r3_q31, .int 0])), (r3_q7, .inl (cy 0, 6, .inl (fun _ => 0))), (r3_q15, .inl (cy 0, 6, .inl (fun _ => 0))), (r3_q23, .inl (cy 0, 6, .inl (fun _ => 0))), (r3_q31, .inl (cy 0, 6, .inl (fun _ => 0)))])[q0]? = some (ad (0, 0), .inr (6, fl.mapIdx (fun j v => zfv ad M (0, 0) j v))) := by
        rw [List.getElem?_append_left (List.getElem?_eq_some_iff.mp (f4 M)).1]
        exact f4 M
      refine va_get (D := D) (ci := 6) (v := .ref (ad (0, 1))) (C := RX7) (T := TX7) (N := 8) hx hb hts zi_X7 hown hK hP q0 hob rfl 1 (by decide) (hts _ wd_272) (fun _ h9 => h9) (by rw [f1']; rfl) dd_X7_image_34 ?_
      refine lv_iload_n hx hb dd_X7_image_37 rfl (lv_at hl 2 rfl) ?_
      refine lv_aload_n hx hb dd_X7_image_38 rfl (lv_at hl 0 rfl) ?_
      have hz1 : (zwl cy ad bl M)[1]? = some (ad (0, 1), .inl (cy 3, 2, .inr (.inr (.inr (.inr (zim bl ad)))))) := by
        unfold zwl
        rw [List.getElem?_map, hB.2.1]
        rfl
      have hlen := (List.getElem?_eq_some_iff.mp hz1).1
      refine va_astq (r := (RX2, TX2, 3)) hx hb hK hP hD9 hS 1 3 (zwl cy ad bl M).length 1 (by rw [List.getElem?_append_left hlen]; exact hz1) rfl (by rw [List.getElem?_append_right (Nat.le_refl _), Nat.sub_self]; rfl) rfl hvp dd_X7_image_39 (fun H1 locs1 hP hD9 hS => ?_)
      rw [List.set_append_left _ _ hlen, hjc] at hP hD9
      have hzi : va_up (zim bl ad) jn (some q) = zim (bl ++ img jn) (adN jn [[q], [q5, r1_q7, r1_q15, r1_q23, r1_q31, r1_q39, r1_q47], [q16, r2_q7], [q27, r3_q7, r3_q15, r3_q23, r3_q31]] ad) := by
        funext j'
        unfold zim va_up
        by_cases e9 : j' = jn
        · subst e9
          have hkn := kd_newb hB.2.2.2.2 0 (by omega) hj01
          rw [if_pos rfl, if_pos (by exact hkn)]
          rcases hj01 with rfl | rfl <;> rfl
        · have ho : outB jn (10 + 4 * j') = true := outB_iff.mpr (by omega)
          rw [if_neg e9, kd_old ho, adN_out ho]
      have hw : zwl cy (adN jn [[q], [q5, r1_q7, r1_q15, r1_q23, r1_q31, r1_q39, r1_q47], [q16, r2_q7], [q27, r3_q7, r3_q15, r3_q23, r3_q31]] ad) (bl ++ img jn) (mN jn M) = (zwl cy ad bl M).set 1 (ad (0, 1), .inl (cy 3, 2, .inr (.inr (.inr (.inr (va_up (zim bl ad) jn (some q))))))) ++ [(q, .inr (1, [.ref q5, .ref q16, .ref q27])), (q5, .inr (2, [.ref r1_q7, .ref r1_q15, .ref r1_q23, .ref r1_q31, .ref r1_q39, .ref r1_q47, .int 0])), (r1_q7, .inl (cy 0, 6, .inl (fun _ => 0))), (r1_q15, .inl (cy 0, 24, .inl (fun _ => 0))), (r1_q23, .inl (cy 0, 24, .inl (fun _ => 0))), (r1_q31, .inl (cy 0, 24, .inl (fun _ => 0))), (r1_q39, .inl (cy 0, 24, .inl (fun _ => 0))), (r1_q47, .inl (cy 0, 24, .inl (fun _ => 0))), (q16, .inr (3, [.ref r2_q7, .int 0])), (r2_q7, .inl (cy 0, 6, .inl (fun _ => 0))), (q27, .inr (0, [.ref r3_q7, .ref r3_q15, .ref r3_q23, .ref r3_q31, .int 0])), (r3_q7, .inl (cy 0, 6, .inl (fun _ => 0))), (r3_q15, .inl (cy 0, 6, .inl (fun _ => 0))), (r3_q23, .inl (cy 0, 6, .inl (fun _ => 0))), (r3_q31, .inl (cy 0, 6, .inl (fun _ => 0)))] := by
        rw [zwl_new hB, im_zw hj01, hzi]
      rw [← hw] at hP hD9
      have hDn : ∀ M2, va_D A (zwl cy (adN jn [[q], [q5, r1_q7, r1_q15, r1_q23, r1_q31, r1_q39, r1_q47], [q16, r2_q7], [q27, r3_q7, r3_q15, r3_q23, r3_q31]] ad) (bl ++ img jn) M2) := fun M2 => zwl_D M2 hD9
      have hEn : zE (adN jn [[q], [q5, r1_q7, r1_q15, r1_q23, r1_q31, r1_q39, r1_q47], [q16, r2_q7], [q27, r3_q7, r3_q15, r3_q23, r3_q31]] ad) A s := zE_cg (fun t o h => adN_out (outB_iff.mpr (by show t < 10 + 4 * jn ∨ 14 + 4 * jn ≤ t; omega))) hE
      have C1 : zCtx p l e R s m args below meth c D cy A (adN jn [[q], [q5, r1_q7, r1_q15, r1_q23, r1_q31, r1_q39, r1_q47], [q16, r2_q7], [q27, r3_q7, r3_q15, r3_q23, r3_q31]] ad) (bl ++ img jn) 3 15 173 Qm RX7 cX7_image (2 + 1) := ⟨hx, hb, hml, hown, hts, hK, hDn, hA, hN, hEn, ⟨hR1, hR2⟩, hcap.1, hcap.2⟩
      have ho2 : ∀ t, t < 10 → outB jn t = true := fun t ht => outB_iff.mpr (by omega)
      have hm : ∀ t, t < 10 → (mN jn M).1 t = M.1 t := fun t ht => mN_out (ho2 t ht)
      have hkn : zkd (bl ++ img jn) (10 + 4 * jn) = 2 := kd_newb hB.2.2.2.2 0 (by omega) hj01
      refine im40 C1 (j := j) (jn := jn) (st := st) (M := mN jn M) hjn (KdX_new hj01 hB.2.2.2.2 hKd) hkn ?_ (fun j' hj' hne => ?_) ?_ hR.2.2.2.1 ?_ (fun M' r' f' => ?_) H1 locs1 ls rfl hP hS ?_
      · obtain ⟨o1, ⟨L, o2, o3⟩, o4⟩ := hR.1
        exact ⟨by rw [hm 2 (by omega)]; exact o1, ⟨L, by rw [hm 3 (by omega)]; exact o2, o3⟩, by rw [hm 4 (by omega)]; exact o4⟩
      · have ho : ∀ d, d < 4 → outB jn (10 + 4 * j' + d) = true := fun d hd => outB_iff.mpr (by omega)
        have hI := hR.2.1 j' hj'
        refine ⟨?_, fun r hr => ?_⟩
        · rw [kd_old (by exact ho 0 (by omega))]; exact hI.1
        · obtain ⟨o1, ⟨L, o2, o3⟩, o4⟩ := hI.2 r hr
          exact ⟨by rw [mN_out (ho 1 (by omega))]; exact o1, ⟨L, by rw [mN_out (ho 2 (by omega))]; exact o2, o3⟩, by rw [mN_out (ho 3 (by omega))]; exact o4⟩
      · rw [hm 8 (by omega)]; exact hR.2.2.1
      · intro n hn; rw [hm 0 (by omega)]; exact hR.2.2.2.2 n hn
      · intro H locs arr hn hP hS hl
        exact hret 1 49 15 173 _ _ M' H locs arr dd_X7_image_49 (Nat.le_refl _) (Nat.le_refl _) ⟨by rw [hev]; rfl, by rw [hev]; exact r', ⟨by rw [f'.1, hm 9 (by omega)], f'.2⟩, hDn, Or.inr ⟨jn, _, hjn, hk, rfl, rfl⟩⟩ hP hS
      · have e1 : adN jn [[q], [q5, r1_q7, r1_q15, r1_q23, r1_q31, r1_q39, r1_q47], [q16, r2_q7], [q27, r3_q7, r3_q15, r3_q23, r3_q31]] ad (0, 0) = ad (0, 0) := adN_out (ho2 0 (by omega))
        have e2 : adN jn [[q], [q5, r1_q7, r1_q15, r1_q23, r1_q31, r1_q39, r1_q47], [q16, r2_q7], [q27, r3_q7, r3_q15, r3_q23, r3_q31]] ad (10 + 4 * jn, 0) = q := by rcases hj01 with rfl | rfl <;> rfl
        have hl9 := lv_sub hl [1, 2, 0] rfl
        show lv_has ls 3 [(0, .ref (adN jn [[q], [q5, r1_q7, r1_q15, r1_q23, r1_q31, r1_q39, r1_q47], [q16, r2_q7], [q27, r3_q7, r3_q15, r3_q23, r3_q31]] ad (0, 0))), (1, .int j), (2, .ref (adN jn [[q], [q5, r1_q7, r1_q15, r1_q23, r1_q31, r1_q39, r1_q47], [q16, r2_q7], [q27, r3_q7, r3_q15, r3_q23, r3_q31]] ad (10 + 4 * jn, 0)))]
        rw [e1, e2]
        exact hl9
  · rw [h1, zp_0] at q
    have hev : ev_image st j.toInt = (-2, sRf st 0) := by unfold ev_image; rw [if_neg q]
    intro H locs arr hn hP hS hl
    exact hret v2 13 0 0 ad bl M2 H locs arr dd_X7_image_13 (by omega) (by omega) ⟨by rw [hev, h2]; rfl, by rw [hev]; exact g2, f2, hD, Or.inl ⟨rfl, rfl⟩⟩ hP hS
end IM
def imP (D : va_G) (cy : Nat → ClassId) (ad : Nat × Nat → Nat) (bl : zBl) (M : zM) (sz : Nat) (j : Int32) : Array Value → State → Prop := fun a U => zPre D cy ad bl M sz [zR 0 0, zI j] a U ∧ va_AO "ScrapedRoll$Roll" U
theorem imP_blind {D : va_G} {cy : Nat → ClassId} {ad : Nat × Nat → Nat} {bl : zBl} {M : zM} {sz : Nat} {j : Int32} : FrameBlind (imP D cy ad bl M sz j) := fun a U g mk q => ⟨zPre_blind a U g mk q.1, va_AO.moved (u := U) (U := U.calling g mk a) (Vm.Alike.refl U.vm) q.2⟩
def imQ (D : va_G) (cy : Nat → ClassId) (ad : Nat × Nat → Nat) (bl : zBl) (M : zM) (st : St) (j : Int32) (A : Nat → Prop) : Array Value → State → Outcome → State → Prop := fun _ s0 oc t => (∃ (v : Int32) (ad' : Nat × Nat → Nat) (bl' : zBl) (M' : zM), oc = .returned (some (.int v)) ∧ imF D cy ad bl M st j A v ad' bl' M' ∧ va_P D vwCl (zwl cy ad' bl' M') t.heap) ∧ va_F A s0 t
def rm_im : Room := { frames := 3, cells := 15, slots := 173, locals := 120 }
theorem met_image (l : Launch) (D : va_G) (cy : Nat → ClassId) (ad : Nat × Nat → Nat) (bl : zBl) (M : zM) (sz : Nat) (j : Int32) (st : St) (hR : RpX (zkd bl) M st) (hKd : KdX (zkd bl)) (hbl : ∀ jn, jn < 2 → ¬ zkd bl (10 + 4 * jn) = 2 → blk jn bl) : Met l yX7_image (zws yX7_image cX7_image 3 (some .int)) rm_im (imP D cy ad bl M sz j) (imQ D cy ad bl M st j (va_A (zwl cy ad bl M) sz)) 15 173 (va_A (zwl cy ad bl M) sz) := by
  refine Met.ofW (cc := cX7_image) (maxL := 3) (ret := some .int) (ws := zws yX7_image cX7_image 3 (some .int)) (ws' := zW) (by decide) rfl ?_
  intro p e s m args below meth c s₁ B hml hv
  obtain ⟨⟨rfl, hsz, hP, hK, hD0, hN, hE⟩, hO⟩ := hv
  have hts := atoms_spec (ws := zws yX7_image cX7_image 3 (some .int)) B.pre
  have hown : s.vm.findClass RX7 = some m.cls := findClass_of_methodNamed B.named
  subst hsz
  have hD1 := hD0.self (sz := s.heap.size)
  have hD : ∀ M', va_D (va_A (zwl cy ad bl M) s.heap.size) (zwl cy ad bl M') := fun M' => zwl_D M' hD1
  generalize hAe : va_A (zwl cy ad bl M) s.heap.size = A at hD hE ⊢
  have hA : ∀ q : Nat, s.heap.size ≤ q → A q := fun q h => by rw [← hAe]; exact Or.inr h
  have hl := lv_entry (([zR 0 0, zI j] : List zV).map (zcv ad)) (n := 3) (Nat.le_of_ble_eq_true rfl)
  rw [lg_entry_eq]
  have C0 : zCtx p l e (headSpec (zws yX7_image cX7_image 3 (some .int)) rm_im).room s m (([zR 0 0, zI j] : List zV).map (zcv ad)).toArray below meth c D cy A ad bl 3 0 0 (MQ below (imQ D cy ad bl M st j A) (([zR 0 0, zI j] : List zV).map (zcv ad)).toArray s 15 173 A) RX7 cX7_image (2 + 1) := ⟨B.exec, B.bytes, hml, hown, fun w hw => hts w (List.mem_cons_of_mem _ hw), hK, hD, hA, hN, hE, ⟨Nat.le_refl _, Nat.le_refl _⟩, Nat.zero_le _, Nat.zero_le _⟩
  refine im_body C0 hO ⟨Nat.le_refl _, Nat.le_refl _⟩ hR hKd hbl (fun v pc ce so ad' bl' M' H locs arr hdg h1 h2 hf hP9 hS9 => ?_) s.heap [] _ rfl hP va_S.rf (zentry_has (as := [zR 0 0, zI j]) (n := 3) hl)
  refine W.widen (k := 15) (n := 173) h1 h2 ?_
  exact W.iret B.exec B.bytes B.returns (fun t ht hW => ⟨⟨v, ad', bl', M', rfl, hf, by rw [ht]; exact hP9⟩, hS9.F ht⟩) hS9.2.2 hdg B.notSynchronized
