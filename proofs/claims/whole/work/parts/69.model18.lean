set_option maxRecDepth 20000 in
theorem mt_X8_sums {kd : Nat → Nat} {K : zK} {X : zX} (hX : ∀ (n pc : Nat) (ls : zLS) (st : List zV) (M : zM), zrun (tb_X8_sums kd K) [(6, [])] n X pc ls st M → X pc ls st M) (p : Int64) (x : Int32) (n : Int32) (M : zM) (h : (kd 9 = 8) ∧ ∃ L : List Int, (L.length ≤ 30 ∧ (0 ≤ x.toInt ∧ x.toInt ≤ 200) ∧ n.toInt = (L.length : Int)) ∧ (∀ (i9 : Nat) (z9 : Int), L[i9]? = some z9 → (M.1 9 1 (x.toInt.toNat + i9)).toInt = z9) ∧ ∀ v : Int64, (v = L.foldl mx p) → K (some (zL v)) M) : X 0 [some (zR 9 0), some (zL (p)), none, some (zI (x)), some (zI (n)), none, none, none] [] M := by
  obtain ⟨hk, L, hL, hz, hK⟩ := h
  refine vc_X8_sums_0 hX (up (N := L.length) (Q := fun j => ∀ (q : Int64) (k : Int32), k.toInt = j → q = (L.take j).foldl mx p → X 6 [some (zR 9 0), some (zL p), none, some (zI x), some (zI n), some (zL q), none, some (zI k)] [] M) (fun q k hk1 hq => ?_) (fun j hj ih q k hk1 hq => ?_) 0 (by omega) p 0 rfl rfl)
  · exact vc_X8_sums_6 hX hk ⟨fun _ => hK _ (by rw [hq, List.take_length]), fun q => by simp only [Int32.lt_iff_toInt_lt, Int32.le_iff_toInt_le, ← Int32.toInt_inj, Int32.toInt_add, Int32.toInt_sub, Int32.toInt_mul, Int32.toInt_neg, Int.bmod, Int32.reduceToInt] at q; omega⟩
  · have hget : L[j]? = some (L[j]'hj) := List.getElem?_eq_getElem hj
    generalize L[j]'hj = z at hget
    have hx := hz j z hget
    have ex : (x + k).toInt = x.toInt + j := by simp only [Int32.lt_iff_toInt_lt, Int32.le_iff_toInt_le, ← Int32.toInt_inj, Int32.toInt_add, Int32.toInt_sub, Int32.toInt_mul, Int32.toInt_neg, Int.bmod, Int32.reduceToInt]; omega
    have en : (x + k).toNatClampNeg = x.toInt.toNat + j := by rw [z_cl]; omega
    refine vc_X8_sums_6 hX hk ⟨fun q => by simp only [Int32.lt_iff_toInt_lt, Int32.le_iff_toInt_le, ← Int32.toInt_inj, Int32.toInt_add, Int32.toInt_sub, Int32.toInt_mul, Int32.toInt_neg, Int.bmod, Int32.reduceToInt] at q; omega, fun _ => ⟨zin_of (n := 915) (by rw [hk]; rfl) (by omega) (by omega), ih _ _ (z_inc hk1 (by omega)) ?_⟩⟩
    rw [en, z_i64, hx, List.take_add_one, hget, hq]
    simp only [Option.toList_some, List.foldl_append, List.foldl_cons, List.foldl_nil]
    rfl
theorem ms_X8_sums : zMS 1 yX8_sums cX8_sums 8 (some .long) sp_X8_sums := by
  intro d hd
  obtain ⟨d', rfl⟩ : ∃ d', d = d' + 1 := ⟨d - 1, by omega⟩
  refine zmethod (tab := tb_X8_sums) (cut := [(6, [])]) (by decide) (tk_X8_sums d' ) ?_
  intro kd as M K h
  unfold sp_X8_sums at h
  split at h
  · rename_i p x n
    exact ⟨Nat.le_of_ble_eq_true rfl, fun X hX => mt_X8_sums hX p x n M h⟩
  · exact h.elim

/-! rows of rows, laid flat -/
theorem fm_len {α : Type} {f : α → List Int} {k : Nat} (hf : ∀ x, (f x).length = k) : ∀ ll : List α, (ll.flatMap f).length = k * ll.length
  | [] => by simp
  | x :: r => by rw [List.flatMap_cons, List.length_append, hf, fm_len hf r, List.length_cons, Nat.mul_succ, Nat.add_comm]
theorem fm_get {α : Type} {f : α → List Int} {k : Nat} (hf : ∀ x, (f x).length = k) : ∀ (ll : List α) (i : Nat) (z : Int), (ll.flatMap f)[i]? = some z → ∃ (q r : Nat) (x : α), i = k * q + r ∧ ll[q]? = some x ∧ (f x)[r]? = some z
  | [], i, z, h => by simp at h
  | x :: t, i, z, h => by
    rw [List.flatMap_cons, List.getElem?_append] at h
    split at h
    · exact ⟨0, i, x, by simp, rfl, h⟩
    · rename_i hi
      rw [hf] at hi h
      obtain ⟨q, r, y, e1, e2, e3⟩ := fm_get hf t _ z h
      exact ⟨q + 1, r, y, by rw [Nat.mul_succ]; omega, by simpa using e2, e3⟩
theorem fm_fold {α : Type} {f : α → List Int} {g : Int64 → α → Int64} (hg : ∀ h x, (f x).foldl mx h = g h x) : ∀ (ll : List α) (h : Int64), (ll.flatMap f).foldl mx h = ll.foldl g h
  | [], h => rfl
  | x :: t, h => by rw [List.flatMap_cons, List.foldl_append, hg, fm_fold hg t, List.foldl_cons]
def fl5 (l : Ly) : List Int := [l.1, l.2.1, l.2.2.1, l.2.2.2.1, l.2.2.2.2]
def fl4 (x : Se) : List Int := [x.1, x.2.1, x.2.2.1, x.2.2.2]
theorem fl5_at {l : Ly} {r : Nat} {z : Int} (h : (fl5 l)[r]? = some z) : r < 5 ∧ z = ly_f l r := by
  have hr : r < 5 := (List.getElem?_eq_some_iff.mp h).1
  refine ⟨hr, ?_⟩
  rcases (show r = 0 ∨ r = 1 ∨ r = 2 ∨ r = 3 ∨ r = 4 by omega) with rfl | rfl | rfl | rfl | rfl <;> cases h <;> rfl
set_option maxRecDepth 20000 in
theorem mt_X8_digest {kd : Nat → Nat} {K : zK} {X : zX} (hX : ∀ (n pc : Nat) (ls : zLS) (st : List zV) (M : zM), zrun (tb_X8_digest kd K) [(6, []), (33, [])] n X pc ls st M → X pc ls st M)  (M : zM) (h : (kd 9 = 8) ∧ ∃ s : St, (RpM M s) ∧ ∀ v : Int64, (v = ev_digest s) → ∀ M' : zM, (RpM M' s) → (fr0 M M') → K (some (zL v)) M') : X 0 [some (zR 9 0), none, none, none] [] M := by
  obtain ⟨hk, s, hR, hK⟩ := h
  have zz : ∀ x : Int32, 0 ≤ x.toInt → x.toInt < 915 → zin (kd 9) 1 0 x := fun x h0 h1 => zin_of (n := 915) (by rw [hk]; rfl) h0 h1
  refine vc_X8_digest_0 hX (up (N := 7) (Q := fun j => ∀ (M1 : zM) (p : Int64) (k : Int32), RpM M1 s → fr0 M M1 → k.toInt = j → p = cts s j → X 6 [some (zR 9 0), some (zL p), none, some (zI k)] [] M1) (fun M1 p k hR hf hk1 hp => ?_) (fun j hj ih M1 p k hR hf hk1 hp => ?_) 0 (by omega) M 1163 0 hR fr0.rf rfl rfl)
  · refine vc_X8_digest_6 hX hk ⟨fun _ => ?_, fun q => by simp only [Int32.lt_iff_toInt_lt, Int32.le_iff_toInt_le, ← Int32.toInt_inj, Int32.toInt_add, Int32.toInt_sub, Int32.toInt_mul, Int32.toInt_neg, Int.bmod, Int32.reduceToInt] at q; omega⟩
    have ha := hR.1.1
    refine up (N := 6) (Q := fun j => ∀ (p : Int64) (k : Int32), k.toInt = j → p = zit (fun c h => (s.1.1.1 c).foldl mxL (mx h ((s.1.1.1 c).length : Int))) j (cts s 7) → X 33 [some (zR 9 0), some (zL p), none, some (zI k)] [] M1) (fun p k hk1 hp => ?_) (fun j hj ih p k hk1 hp => ?_) 0 (by omega) p 0 rfl hp
    · have hL := hR.1.2.1
      have h6 := hL.1
      have h7 := hL.2.1
      refine vc_X8_digest_33 hX hk ⟨fun _ => ?_, fun q => by simp only [Int32.lt_iff_toInt_lt, Int32.le_iff_toInt_le, ← Int32.toInt_inj, Int32.toInt_add, Int32.toInt_sub, Int32.toInt_mul, Int32.toInt_neg, Int.bmod, Int32.reduceToInt] at q; omega⟩
      rw [n127]
      refine ⟨zz _ (by decide) (by decide), s.1.2.2.flatMap fl4, ⟨?_, by decide, ?_⟩, fun i9 z9 hz => ?_, fun v1 h1 => hK _ ?_ M1 hR hf⟩
      · rw [fm_len (k := 4) (fun _ => rfl)]; omega
      · rw [fm_len (k := 4) (fun _ => rfl)]
        simp only [Int32.lt_iff_toInt_lt, Int32.le_iff_toInt_le, ← Int32.toInt_inj, Int32.toInt_add, Int32.toInt_sub, Int32.toInt_mul, Int32.toInt_neg, Int.bmod, Int32.reduceToInt]; omega
      · obtain ⟨q, r, x, e1, e2, e3⟩ := fm_get (k := 4) (fun _ => rfl) _ _ _ hz
        obtain ⟨-, g1, g2, g3, g4⟩ := hL.2.2 q x e2
        have hr : r < 4 := (List.getElem?_eq_some_iff.mp e3).1
        rw [e1, show (129 : Int32).toInt.toNat + (4 * q + r) = 129 + 4 * q + r by rw [show (129 : Int32).toInt.toNat = 129 from rfl]; omega]
        rcases (show r = 0 ∨ r = 1 ∨ r = 2 ∨ r = 3 by omega) with rfl | rfl | rfl | rfl <;> cases e3
        · exact g1
        · exact g2
        · exact g3
        · exact g4
      · rw [fm_fold (g := mxS) (fun _ _ => rfl)] at h1
        rw [h1, hp, L_of hR.2.2.2.1.1, L_of hR.2.2.2.1.2]
        rfl
    · have hkn : k.toNatClampNeg = j := by rw [z_cl]; omega
      have hlen := (ha.2.1 j hj).1
      have h4 := (ha.1.2 j hj).1
      refine vc_X8_digest_33 hX hk ⟨fun q => by simp only [Int32.lt_iff_toInt_lt, Int32.le_iff_toInt_le, ← Int32.toInt_inj, Int32.toInt_add, Int32.toInt_sub, Int32.toInt_mul, Int32.toInt_neg, Int.bmod, Int32.reduceToInt] at q; omega, fun _ => ?_⟩
      rw [z0a, hkn]
      refine ⟨zz _ (by omega) (by omega), ⟨by omega, by decide, by decide⟩, fun v2 h2 => ⟨zz _ (by omega) (by omega), (s.1.1.1 j).flatMap fl5, ⟨?_, ?_, ?_⟩, fun i9 z9 hz => ?_, fun v3 h3 => ih v3 (k + 1) (z_inc hk1 (by omega)) ?_⟩⟩
      · rw [fm_len (k := 5) (fun _ => rfl)]; omega
      · have h2' : v2.toInt = 6 + 20 * k.toInt + 5 * 0 + 0 := h2
        omega
      · rw [fm_len (k := 5) (fun _ => rfl)]
        simp only [Int32.lt_iff_toInt_lt, Int32.le_iff_toInt_le, ← Int32.toInt_inj, Int32.toInt_add, Int32.toInt_sub, Int32.toInt_mul, Int32.toInt_neg, Int.bmod, Int32.reduceToInt]; omega
      · obtain ⟨q, r, l, e1, e2, e3⟩ := fm_get (k := 5) (fun _ => rfl) _ _ _ hz
        obtain ⟨f1, f2⟩ := fl5_at e3
        have h2' : v2.toInt = 6 + 20 * k.toInt + 5 * 0 + 0 := h2
        rw [e1, f2, show v2.toInt.toNat + (5 * q + r) = 6 + 20 * j + 5 * q + r by omega]
        exact (ha.2.1 j hj).2 q l e2 r f1
      · rw [fm_fold (g := mxL) (fun _ _ => rfl), z_i64, hlen] at h3
        rw [h3, hp]
        rfl
  · refine vc_X8_digest_6 hX hk ⟨fun q => by simp only [Int32.lt_iff_toInt_lt, Int32.le_iff_toInt_le, ← Int32.toInt_inj, Int32.toInt_add, Int32.toInt_sub, Int32.toInt_mul, Int32.toInt_neg, Int.bmod, Int32.reduceToInt] at q; omega, fun _ => ⟨s, hR, by omega, fun v1 h1 M2 g2 f2 => ih M2 _ (k + 1) g2 (hf.tr f2) (z_inc hk1 (by omega)) ?_⟩⟩
    rw [z_i64, h1, hk1, hp]
    rfl
theorem ms_X8_digest : zMS 10 yX8_digest cX8_digest 4 (some .long) sp_X8_digest := by
  intro d hd
  obtain ⟨d', rfl⟩ : ∃ d', d = d' + 10 := ⟨d - 10, by omega⟩
  refine zmethod (tab := tb_X8_digest) (cut := [(6, []), (33, [])]) (by decide) (tk_X8_digest d' ms_X8_counted ms_X8_at ms_X8_sums) ?_
  intro kd as M K h
  unfold sp_X8_digest at h
  split at h
  · skip
    exact ⟨Nat.le_of_ble_eq_true rfl, fun X hX => mt_X8_digest hX  M h⟩
  · exact h.elim

