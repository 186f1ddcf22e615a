theorem c0n : (0 : Int32).toNatClampNeg = 0 := rfl
theorem c1n : (1 : Int32).toNatClampNeg = 1 := rfl
theorem c5n : (5 : Int32).toNatClampNeg = 5 := rfl
theorem c6n : (6 : Int32).toNatClampNeg = 6 := rfl
theorem zcp_of {k0 o0 k1 o1 n0 n1 : Nat} {sp dp n : Int32} (h0 : zar k0 o0 = some (0, n0)) (h1 : zar k1 o1 = some (0, n1)) (hs : 0 ≤ sp.toInt) (hd : 0 ≤ dp.toInt) (hn : 0 ≤ n.toInt) (g0 : sp.toInt + n.toInt ≤ n0) (g1 : dp.toInt + n.toInt ≤ n1) : zcpok k0 o0 k1 o1 sp dp n :=
  ⟨n0, n1, h0, h1, by simp only [Int32.lt_iff_toInt_lt, Int32.le_iff_toInt_le, ← Int32.toInt_inj, Int32.toInt_add, Int32.toInt_sub, Int32.toInt_mul, Int32.toInt_neg, Int.bmod, Int32.reduceToInt]; omega, by simp only [Int32.lt_iff_toInt_lt, Int32.le_iff_toInt_le, ← Int32.toInt_inj, Int32.toInt_add, Int32.toInt_sub, Int32.toInt_mul, Int32.toInt_neg, Int.bmod, Int32.reduceToInt]; omega, by simp only [Int32.lt_iff_toInt_lt, Int32.le_iff_toInt_le, ← Int32.toInt_inj, Int32.toInt_add, Int32.toInt_sub, Int32.toInt_mul, Int32.toInt_neg, Int.bmod, Int32.reduceToInt]; omega, by rw [z_cl, z_cl]; omega, by rw [z_cl, z_cl]; omega⟩
set_option maxRecDepth 20000 in
theorem mt_X4_take {kd : Nat → Nat} {K : zK} {X : zX} (hX : ∀ (n pc : Nat) (ls : zLS) (st : List zV) (M : zM), zrun (tb_X4_take kd K) [] n X pc ls st M → X pc ls st M) (t : Nat) (u : Nat) (M : zM) (h : (kd t = 4) ∧ (kd u = 4) ∧ (¬ t = u) ∧ ∃ L : List Int, (RpT (M.1 u) L) ∧ ∀ S' : zB, (RpT S' L) → ∀ M' : zM, (M' = zbs M t S') → K none M') : X 0 [some (zR t 0), some (zR u 0)] [] M := by
  obtain ⟨hk, hu, hne, L, hL, hK⟩ := h
  have hnu : u ≠ t := fun e => hne e.symm
  refine vc_X4_take_0 hX hk hu (fun M1 e1 => ⟨zcp_of (n0 := 6) (n1 := 6) (by rw [hu]; rfl) (by rw [hk]; rfl) (by decide) (by decide) (by decide) (by decide) (by decide), fun M2 e2 => ?_⟩)
  rw [c0n, c6n] at e2
  unfold zcpy at e2
  rw [zmw_bs] at e1 e2
  subst e1
  simp only [zbs_at, zbs_bs, zbs_ne hnu] at e2
  refine hK _ ⟨hL.1, ?_, fun i z hz => ?_⟩ M2 e2
  · simp [zrw, upd]; exact hL.2.1
  · have hi := (List.getElem?_eq_some_iff.mp hz).1
    have h6 := hL.1
    have : i < 6 := by omega
    simpa [zrw, va_cpy, this] using hL.2.2 i z hz
theorem ms_X4_take : zMS 1 yX4_take cX4_take 2 none sp_X4_take := by
  intro d hd
  obtain ⟨d', rfl⟩ : ∃ d', d = d' + 1 := ⟨d - 1, by omega⟩
  refine zmethod (tab := tb_X4_take) (cut := []) (by decide) (tk_X4_take d' ) ?_
  intro kd as M K h
  unfold sp_X4_take at h
  split at h
  · rename_i t u
    exact ⟨Nat.le_of_ble_eq_true rfl, fun X hX => mt_X4_take hX t u M h⟩
  · exact h.elim

set_option maxRecDepth 20000 in
theorem mt_X4_add {kd : Nat → Nat} {K : zK} {X : zX} (hX : ∀ (n pc : Nat) (ls : zLS) (st : List zV) (M : zM), zrun (tb_X4_add kd K) [] n X pc ls st M → X pc ls st M) (t : Nat) (s : Int32) (M : zM) (h : (kd t = 4) ∧ ∃ L : List Int, (RpT (M.1 t) L) ∧ ∀ S' : zB, (RpT S' (stAdd L s.toInt)) → ∀ M' : zM, (M' = zbs M t S') → K none M') : X 0 [some (zR t 0), some (zI (s))] [] M := by
  obtain ⟨hk, L, hL, hK⟩ := h
  have hs := hL.2.1
  have h6 := hL.1
  refine vc_X4_add_0 hX hk ⟨fun h1 => ⟨fun h2 => ?_, fun h2 => ⟨zin_of (n := 6) (by rw [hk]; rfl) (by omega) (by simp only [Int32.lt_iff_toInt_lt, Int32.le_iff_toInt_le, ← Int32.toInt_inj, Int32.toInt_add, Int32.toInt_sub, Int32.toInt_mul, Int32.toInt_neg, Int.bmod, Int32.reduceToInt] at h1; omega), fun M1 e1 M2 e2 => ?_⟩⟩, fun h1 => ?_⟩
  · simp only [Int32.lt_iff_toInt_lt, Int32.le_iff_toInt_le, ← Int32.toInt_inj, Int32.toInt_add, Int32.toInt_sub, Int32.toInt_mul, Int32.toInt_neg, Int.bmod, Int32.reduceToInt] at h2; omega
  · simp only [Int32.lt_iff_toInt_lt, Int32.le_iff_toInt_le, ← Int32.toInt_inj, Int32.toInt_add, Int32.toInt_sub, Int32.toInt_mul, Int32.toInt_neg, Int.bmod, Int32.reduceToInt] at h1
    have hlt : L.length < 6 := by omega
    rw [zmw_bs] at e1 e2
    subst e1
    simp only [zbs_at, zbs_bs] at e2
    rw [z_cl, hs, Int.toNat_natCast] at e2
    refine hK _ ?_ M2 e2
    unfold stAdd
    rw [if_pos hlt]
    refine ⟨by rw [List.length_append]; simp; omega, ?_, fun i z hz => ?_⟩
    · simp [zrw, upd]
      simp only [Int32.lt_iff_toInt_lt, Int32.le_iff_toInt_le, ← Int32.toInt_inj, Int32.toInt_add, Int32.toInt_sub, Int32.toInt_mul, Int32.toInt_neg, Int.bmod, Int32.reduceToInt]
      omega
    · simp only [zrw]
      simp [upd]
      by_cases hi : i = L.length
      · subst hi
        rw [List.getElem?_append_right (Nat.le_refl _)] at hz
        simp at hz
        simp [hz]
      · rw [if_neg hi]
        have hi2 := (List.getElem?_eq_some_iff.mp hz).1
        simp at hi2
        rw [List.getElem?_append_left (by omega)] at hz
        exact hL.2.2 i z hz
  · simp only [Int32.lt_iff_toInt_lt, Int32.le_iff_toInt_le, ← Int32.toInt_inj, Int32.toInt_add, Int32.toInt_sub, Int32.toInt_mul, Int32.toInt_neg, Int.bmod, Int32.reduceToInt] at h1
    have hlen : L.length = 6 := by omega
    refine ⟨zcp_of (n0 := 6) (n1 := 6) (by rw [hk]; rfl) (by rw [hk]; rfl) (by decide) (by decide) (by decide) (by decide) (by decide), fun M3 e3 M4 e4 => ?_⟩
    rw [c0n, c1n, c5n] at e3
    unfold zcpy at e3
    rw [zmw_bs] at e3 e4
    subst e3
    simp only [zbs_at, zbs_bs] at e4
    have h41 : M4.1 t 0 1 = 5 := by rw [e4, zbs_at, zrw_at]; simp [upd]
    rw [h41]
    refine ⟨fun h2 => absurd h2 (by decide), fun _ => ⟨zin_of (n := 6) (by rw [hk]; rfl) (by decide) (by decide), fun M5 e5 M6 e6 => ?_⟩⟩
    rw [zmw_bs] at e5 e6
    subst e4
    subst e5
    simp only [zbs_at, zbs_bs] at e6
    refine hK _ ?_ M6 e6
    unfold stAdd
    rw [if_neg (by omega)]
    refine ⟨by rw [List.length_append, List.length_drop]; simp; omega, ?_, fun i z hz => ?_⟩
    · simp [zrw, upd]
      omega
    · simp only [zrw]
      simp [upd]
      by_cases hi : i = 5
      · subst hi
        rw [List.getElem?_append_right (by rw [List.length_drop]; omega), List.length_drop, hlen] at hz
        simp at hz
        simp [hz]
      · rw [if_neg hi]
        have hi2 := (List.getElem?_eq_some_iff.mp hz).1
        simp at hi2
        rw [List.getElem?_append_left (by rw [List.length_drop]; omega), List.getElem?_drop] at hz
        have h5 : i < 5 := by omega
        simp [va_cpy, h5]
        exact hL.2.2 _ z hz
theorem ms_X4_add : zMS 1 yX4_add cX4_add 2 none sp_X4_add := by
  intro d hd
  obtain ⟨d', rfl⟩ : ∃ d', d = d' + 1 := ⟨d - 1, by omega⟩
  refine zmethod (tab := tb_X4_add) (cut := []) (by decide) (tk_X4_add d' ) ?_
  intro kd as M K h
  unfold sp_X4_add at h
  split at h
  · rename_i t s
    exact ⟨Nat.le_of_ble_eq_true rfl, fun X hX => mt_X4_add hX t s M h⟩
  · exact h.elim

set_option maxRecDepth 20000 in
theorem mt_X4_takeLast {kd : Nat → Nat} {K : zK} {X : zX} (hX : ∀ (n pc : Nat) (ls : zLS) (st : List zV) (M : zM), zrun (tb_X4_takeLast kd K) [] n X pc ls st M → X pc ls st M) (t : Nat) (M : zM) (h : (kd t = 4) ∧ ∃ L : List Int, (RpT (M.1 t) L) ∧ ∀ v : Int32, (v.toInt = (L.getLast?).getD (-1)) → ∀ S' : zB, (RpT S' L.dropLast) → ∀ M' : zM, (M' = zbs M t S') → K (some (zI v)) M') : X 0 [some (zR t 0)] [] M := by
  obtain ⟨hk, L, hL, hK⟩ := h
  have hs := hL.2.1
  have h6 := hL.1
  refine vc_X4_takeLast_0 hX hk ⟨fun h1 => ?_, fun h1 => ⟨fun h2 M1 e1 => ?_, fun h2 => ?_⟩⟩
  · simp only [Int32.lt_iff_toInt_lt, Int32.le_iff_toInt_le, ← Int32.toInt_inj, Int32.toInt_add, Int32.toInt_sub, Int32.toInt_mul, Int32.toInt_neg, Int.bmod, Int32.reduceToInt] at h1
    have : L = [] := List.eq_nil_of_length_eq_zero (by omega)
    subst this
    exact hK _ rfl (M.1 t) hL M zbs_self.symm
  · simp only [Int32.lt_iff_toInt_lt, Int32.le_iff_toInt_le, ← Int32.toInt_inj, Int32.toInt_add, Int32.toInt_sub, Int32.toInt_mul, Int32.toInt_neg, Int.bmod, Int32.reduceToInt] at h1 h2
    rw [zmw_bs] at e1
    have e0 : (M1.1 t 0 1).toInt = (L.length : Int) - 1 := by
      rw [e1, zbs_at, zrw_at]; simp [upd]; simp only [Int32.lt_iff_toInt_lt, Int32.le_iff_toInt_le, ← Int32.toInt_inj, Int32.toInt_add, Int32.toInt_sub, Int32.toInt_mul, Int32.toInt_neg, Int.bmod, Int32.reduceToInt]; omega
    refine ⟨zin_of (n := 6) (by rw [hk]; rfl) (by omega) (by omega), hK _ ?_ (M1.1 t) ?_ M1 (by rw [e1, zbs_at])⟩
    · have hget : L[L.length - 1]? = some (L[L.length - 1]'(by omega)) := List.getElem?_eq_getElem (by omega)
      have := hL.2.2 _ _ hget
      rw [z_cl, e0, show ((L.length : Int) - 1).toNat = L.length - 1 by omega]
      rw [e1, zbs_at, zrw_ne (by omega), this, List.getLast?_eq_getElem?, hget]
      rfl
    · refine ⟨by rw [List.length_dropLast]; omega, by rw [e0, List.length_dropLast]; omega, fun i z hz => ?_⟩
      rw [List.getElem?_dropLast] at hz
      split at hz
      · rw [e1, zbs_at, zrw_ne (by omega)]
        exact hL.2.2 i z hz
      · cases hz
  · simp only [Int32.lt_iff_toInt_lt, Int32.le_iff_toInt_le, ← Int32.toInt_inj, Int32.toInt_add, Int32.toInt_sub, Int32.toInt_mul, Int32.toInt_neg, Int.bmod, Int32.reduceToInt] at h2; omega
theorem ms_X4_takeLast : zMS 1 yX4_takeLast cX4_takeLast 1 (some .int) sp_X4_takeLast := by
  intro d hd
  obtain ⟨d', rfl⟩ : ∃ d', d = d' + 1 := ⟨d - 1, by omega⟩
  refine zmethod (tab := tb_X4_takeLast) (cut := []) (by decide) (tk_X4_takeLast d' ) ?_
  intro kd as M K h
  unfold sp_X4_takeLast at h
  split at h
  · rename_i t
    exact ⟨Nat.le_of_ble_eq_true rfl, fun X hX => mt_X4_takeLast hX t M h⟩
  · exact h.elim

set_option maxRecDepth 20000 in
theorem mt_X0_take {kd : Nat → Nat} {K : zK} {X : zX} (hX : ∀ (n pc : Nat) (ls : zLS) (st : List zV) (M : zM), zrun (tb_X0_take kd K) [] n X pc ls st M → X pc ls st M) (t : Nat) (u : Nat) (M : zM) (h : (kd t = 5) ∧ (kd u = 5) ∧ (¬ t = u) ∧ ∃ L : List Se, (RpL (M.1 u) L) ∧ ∀ S' : zB, (RpL S' L) → ∀ M' : zM, (M' = zbs M t S') → K none M') : X 0 [some (zR t 0), some (zR u 0)] [] M := by
  obtain ⟨hk, hu, hne, L, hL, hK⟩ := h
  have hnu : u ≠ t := fun e => hne e.symm
  have ok : ∀ o, 1 ≤ o → o ≤ 4 → zcpok (kd u) o (kd t) o (0 : Int32) (0 : Int32) (6 : Int32) := fun o h1 h4 => by
    have : zar 5 o = some (0, 6) := by rcases (show o = 1 ∨ o = 2 ∨ o = 3 ∨ o = 4 by omega) with rfl | rfl | rfl | rfl <;> rfl
    exact zcp_of (n0 := 6) (n1 := 6) (by rw [hu]; exact this) (by rw [hk]; exact this) (by decide) (by decide) (by decide) (by decide) (by decide)
  refine vc_X0_take_0 hX hk hu (fun M1 e1 => ⟨ok 1 (by omega) (by omega), fun M2 e2 => ⟨ok 2 (by omega) (by omega), fun M3 e3 => ⟨ok 3 (by omega) (by omega), fun M4 e4 => ⟨ok 4 (by omega) (by omega), fun M5 e5 => ?_⟩⟩⟩⟩)
  rw [c0n, c6n] at e2 e3 e4 e5
  unfold zcpy at e2 e3 e4 e5
  rw [zmw_bs] at e1 e2 e3 e4 e5
  subst e1
  simp only [zbs_at, zbs_bs, zbs_ne hnu] at e2
  subst e2
  simp only [zbs_at, zbs_bs, zbs_ne hnu] at e3
  subst e3
  simp only [zbs_at, zbs_bs, zbs_ne hnu] at e4
  subst e4
  simp only [zbs_at, zbs_bs, zbs_ne hnu] at e5
  refine hK _ ⟨hL.1, ?_, fun i x hx => ?_⟩ M5 e5
  · simp [zrw, upd]; exact hL.2.1
  · have hi := (List.getElem?_eq_some_iff.mp hx).1
    have h6 := hL.1
    have : i < 6 := by omega
    obtain ⟨g0, g1, g2, g3, g4⟩ := hL.2.2 i x hx
    exact ⟨g0, by simpa [zrw, va_cpy, this] using g1, by simpa [zrw, va_cpy, this] using g2, by simpa [zrw, va_cpy, this] using g3, by simpa [zrw, va_cpy, this] using g4⟩
theorem ms_X0_take : zMS 1 yX0_take cX0_take 2 none sp_X0_take := by
  intro d hd
  obtain ⟨d', rfl⟩ : ∃ d', d = d' + 1 := ⟨d - 1, by omega⟩
  refine zmethod (tab := tb_X0_take) (cut := []) (by decide) (tk_X0_take d' ) ?_
  intro kd as M K h
  unfold sp_X0_take at h
  split at h
  · rename_i t u
    exact ⟨Nat.le_of_ble_eq_true rfl, fun X hX => mt_X0_take hX t u M h⟩
  · exact h.elim

set_option maxRecDepth 20000 in
theorem mt_X0_add {kd : Nat → Nat} {K : zK} {X : zX} (hX : ∀ (n pc : Nat) (ls : zLS) (st : List zV) (M : zM), zrun (tb_X0_add kd K) [] n X pc ls st M → X pc ls st M) (t : Nat) (c : Int32) (i : Int32) (y : Int32) (b : Int32) (M : zM) (h : (kd t = 5) ∧ ∃ L : List Se, (RpL (M.1 t) L) ∧ (L.length < 6) ∧ (okSe (c.toInt, i.toInt, y.toInt, b.toInt)) ∧ ∀ v : Int32, (v.toInt = (L.length : Int) + 1) → ∀ S' : zB, (RpL S' (L ++ [(c.toInt, i.toInt, y.toInt, b.toInt)])) → ∀ M' : zM, (M' = zbs M t S') → K (some (zI v)) M') : X 0 [some (zR t 0), some (zI (c)), some (zI (i)), some (zI (y)), some (zI (b))] [] M := by
  obtain ⟨hk, L, hL, hlt, hok, hK⟩ := h
  have hs := hL.2.1
  have h6 := hL.1
  have zz : ∀ (N : zM) (o : Nat), N.1 t 0 4 = M.1 t 0 4 → 1 ≤ o → o ≤ 4 → zin (kd t) o 0 (N.1 t 0 4) := fun N o e h1 h4 => zin_of (n := 6) (by rw [hk]; rcases (show o = 1 ∨ o = 2 ∨ o = 3 ∨ o = 4 by omega) with rfl | rfl | rfl | rfl <;> rfl) (by rw [e]; omega) (by rw [e]; omega)
  refine vc_X0_add_0 hX hk ⟨fun h1 => ?_, fun _ => ⟨fun h1 => ?_, fun _ => ⟨zz M 1 rfl (by omega) (by omega), fun M1 e1 => ?_⟩⟩⟩
  · simp only [Int32.lt_iff_toInt_lt, Int32.le_iff_toInt_le, ← Int32.toInt_inj, Int32.toInt_add, Int32.toInt_sub, Int32.toInt_mul, Int32.toInt_neg, Int.bmod, Int32.reduceToInt] at h1; omega
  · simp only [Int32.lt_iff_toInt_lt, Int32.le_iff_toInt_le, ← Int32.toInt_inj, Int32.toInt_add, Int32.toInt_sub, Int32.toInt_mul, Int32.toInt_neg, Int.bmod, Int32.reduceToInt] at h1; omega
  · rw [zmw_bs] at e1
    have f1 : M1.1 t 0 4 = M.1 t 0 4 := by rw [e1, zbs_at, zrw_ne (by omega)]
    refine ⟨zz M1 2 f1 (by omega) (by omega), fun M2 e2 => ?_⟩
    rw [zmw_bs] at e2
    have f2 : M2.1 t 0 4 = M.1 t 0 4 := by rw [e2, zbs_at, zrw_ne (by omega), f1]
    refine ⟨zz M2 3 f2 (by omega) (by omega), fun M3 e3 => ?_⟩
    rw [zmw_bs] at e3
    have f3 : M3.1 t 0 4 = M.1 t 0 4 := by rw [e3, zbs_at, zrw_ne (by omega), f2]
    refine ⟨zz M3 4 f3 (by omega) (by omega), fun M4 e4 => ?_⟩
    rw [zmw_bs] at e4
    have f4 : M4.1 t 0 4 = M.1 t 0 4 := by rw [e4, zbs_at, zrw_ne (by omega), f3]
    intro M5 e5
    rw [zmw_bs] at e5
    rw [f3] at e4
    rw [f2] at e3
    rw [f1] at e2
    rw [f4] at e5
    have f5 : (M5.1 t 0 4).toInt = (L.length : Int) + 1 := by
      rw [e5, zbs_at, zrw_at]; simp [upd]; simp only [Int32.lt_iff_toInt_lt, Int32.le_iff_toInt_le, ← Int32.toInt_inj, Int32.toInt_add, Int32.toInt_sub, Int32.toInt_mul, Int32.toInt_neg, Int.bmod, Int32.reduceToInt]; omega
    subst e1
    subst e2
    subst e3
    subst e4
    simp only [zbs_at, zbs_bs] at e5
    rw [z_cl, hs, Int.toNat_natCast] at e5
    refine hK _ f5 (M5.1 t) ⟨by rw [List.length_append]; simp; omega, by rw [f5, List.length_append]; simp, fun j x hx => ?_⟩ M5 (by rw [e5, zbs_at])
    rw [e5, zbs_at]
    by_cases hj : j = L.length
    · subst hj
      rw [List.getElem?_append_right (Nat.le_refl _)] at hx
      simp at hx
      subst hx
      exact ⟨hok, by simp [zrw, upd], by simp [zrw, upd], by simp [zrw, upd], by simp [zrw, upd]⟩
    · have hj2 := (List.getElem?_eq_some_iff.mp hx).1
      simp at hj2
      rw [List.getElem?_append_left (by omega)] at hx
      obtain ⟨g0, g1, g2, g3, g4⟩ := hL.2.2 j x hx
      exact ⟨g0, by simpa [zrw, upd, hj] using g1, by simpa [zrw, upd, hj] using g2, by simpa [zrw, upd, hj] using g3, by simpa [zrw, upd, hj] using g4⟩
theorem ms_X0_add : zMS 1 yX0_add cX0_add 5 (some .int) sp_X0_add := by
  intro d hd
  obtain ⟨d', rfl⟩ : ∃ d', d = d' + 1 := ⟨d - 1, by omega⟩
  refine zmethod (tab := tb_X0_add) (cut := []) (by decide) (tk_X0_add d' ) ?_
  intro kd as M K h
  unfold sp_X0_add at h
  split at h
  · rename_i t c i y b
    exact ⟨Nat.le_of_ble_eq_true rfl, fun X hX => mt_X0_add hX t c i y b M h⟩
  · exact h.elim

set_option maxRecDepth 20000 in
theorem mt_X0_empty {kd : Nat → Nat} {K : zK} {X : zX} (hX : ∀ (n pc : Nat) (ls : zLS) (st : List zV) (M : zM), zrun (tb_X0_empty kd K) [] n X pc ls st M → X pc ls st M) (t : Nat) (M : zM) (h : (kd t = 5) ∧ ∃ L : List Se, (RpL (M.1 t) L) ∧ ∀ v : Int32, (v.toInt = (L.length : Int)) → ∀ S' : zB, (RpL S' []) → ∀ M' : zM, (M' = zbs M t S') → K (some (zI v)) M') : X 0 [some (zR t 0), none] [] M := by
  obtain ⟨hk, L, hL, hK⟩ := h
  refine vc_X0_empty_0 hX hk (fun M1 e1 => hK _ hL.2.1 (M1.1 t) ⟨by simp, ?_, fun i x hx => by simp at hx⟩ M1 (by rw [e1, zmw_bs, zbs_at]))
  rw [e1, zmw_bs, zbs_at, zrw_at]
  simp [upd]
theorem ms_X0_empty : zMS 1 yX0_empty cX0_empty 2 (some .int) sp_X0_empty := by
  intro d hd
  obtain ⟨d', rfl⟩ : ∃ d', d = d' + 1 := ⟨d - 1, by omega⟩
  refine zmethod (tab := tb_X0_empty) (cut := []) (by decide) (tk_X0_empty d' ) ?_
  intro kd as M K h
  unfold sp_X0_empty at h
  split at h
  · rename_i t
    exact ⟨Nat.le_of_ble_eq_true rfl, fun X hX => mt_X0_empty hX t M h⟩
  · exact h.elim

set_option maxRecDepth 20000 in
theorem mt_X0_fits {kd : Nat → Nat} {K : zK} {X : zX} (hX : ∀ (n pc : Nat) (ls : zLS) (st : List zV) (M : zM), zrun (tb_X0_fits kd K) [(3, [6])] n X pc ls st M → X pc ls st M) (t : Nat) (u : Nat) (k : Int32) (c : Int32) (i : Int32) (M : zM) (h : (kd t = 5) ∧ (kd u = 3) ∧ ∃ L : List Se, (RpL (M.1 t) L) ∧ ∃ a : Sk, (RpS (M.1 u) a) ∧ ∃ l : Ly, (sk_at a c.toInt i.toInt = some l) ∧ ∀ v : Int32, (v = zp (L.all (seOk k.toInt l (sk_at a c.toInt (i.toInt + 1)) c.toInt i.toInt) = true)) → K (some (zI v)) M) : X 0 [some (zR t 0), some (zR u 0), some (zI (k)), some (zI (c)), some (zI (i)), none, none] [] M := by
  obtain ⟨hk, hu, L, hL, a, ha, l, hl, hK⟩ := h
  have hs := hL.2.1
  have h6 := hL.1
  refine vc_X0_fits_0 hX (up (N := L.length) (Q := fun j => ∀ n : Int32, n.toInt = j → (L.take j).all (seOk k.toInt l (sk_at a c.toInt (i.toInt + 1)) c.toInt i.toInt) = true → X 3 [some (zR t 0), some (zR u 0), some (zI k), some (zI c), some (zI i), some (zI n), none] [] M) (fun n hn hal => ?_) (fun j hj ih n hn hal => ?_) 0 (by omega) 0 rfl (by simp))
  · have fin : K (some (zI 1)) M := hK _ (zp_t (by rw [List.take_length] at hal; exact hal)).symm
    exact vc_X0_fits_3 hX hk hu ⟨fun _ => fin, fun q => ⟨fun _ => fin, fun _ => by simp only [Int32.lt_iff_toInt_lt, Int32.le_iff_toInt_le, ← Int32.toInt_inj, Int32.toInt_add, Int32.toInt_sub, Int32.toInt_mul, Int32.toInt_neg, Int.bmod, Int32.reduceToInt] at q; omega⟩⟩
  · have hget : L[j]? = some (L[j]'hj) := List.getElem?_eq_getElem hj
    generalize L[j]'hj = x at hget
    obtain ⟨g0, g1, g2, g3, g4⟩ := hL.2.2 j x hget
    have hnc : n.toNatClampNeg = j := by rw [z_cl]; omega
    have zz : ∀ o, 1 ≤ o → o ≤ 4 → zin (kd t) o 0 n := fun o h1 h4 => zin_of (n := 6) (by rw [hk]; rcases (show o = 1 ∨ o = 2 ∨ o = 3 ∨ o = 4 by omega) with rfl | rfl | rfl | rfl <;> rfl) (by omega) (by omega)
    have next : seOk k.toInt l (sk_at a c.toInt (i.toInt + 1)) c.toInt i.toInt x = true → X 3 [some (zR t 0), some (zR u 0), some (zI k), some (zI c), some (zI i), some (zI (n + 1)), none] [] M := fun hx => ih (n + 1) (z_inc hn (by omega)) (by rw [List.take_add_one, hget]; simp only [List.all_append, hal]; simpa using hx)
    have stop : seOk k.toInt l (sk_at a c.toInt (i.toInt + 1)) c.toInt i.toInt x = false → K (some (zI 0)) M := fun hx => hK _ (zp_f (fun q => by
      have := List.all_eq_true.mp q x (List.mem_of_getElem? hget)
      rw [hx] at this; cases this)).symm
    rw [← hnc] at g1 g2 g3 g4
    refine vc_X0_fits_3 hX hk hu ⟨fun q => ?_, fun _ => ⟨fun q => ?_, fun _ => ⟨zz 1 (by omega) (by omega), fun h1 => next ?_, fun h1 => ⟨zz 2 (by omega) (by omega), fun h2 => next ?_, fun h2 => ⟨zz 3 (by omega) (by omega), a, ha, l, hl, ?_, fun v3 hv3 => ⟨zz 4 (by omega) (by omega), fun h4 => ⟨fun h5 => next ?_, fun h5 => stop ?_⟩, fun h4 => ⟨fun h5 => next ?_, fun h5 => stop ?_⟩⟩⟩⟩⟩⟩⟩
    · simp only [Int32.lt_iff_toInt_lt, Int32.le_iff_toInt_le, ← Int32.toInt_inj, Int32.toInt_add, Int32.toInt_sub, Int32.toInt_mul, Int32.toInt_neg, Int.bmod, Int32.reduceToInt] at q; omega
    · simp only [Int32.lt_iff_toInt_lt, Int32.le_iff_toInt_le, ← Int32.toInt_inj, Int32.toInt_add, Int32.toInt_sub, Int32.toInt_mul, Int32.toInt_neg, Int.bmod, Int32.reduceToInt] at q; omega
    · rw [← Int32.toInt_inj, g1] at h1; simp [seOk, h1]
    · rw [← Int32.toInt_inj, g2] at h2; simp [seOk, h2]
    · rw [g3]; have := g0.1; omega
    · rw [← Int32.toInt_inj, g4] at h4
      have h4' : ¬ x.2.2.2 = 1 := h4
      rw [hv3, zp_0, g3] at h5
      simp [seOk, h4', h5]
    · rw [← Int32.toInt_inj, g4] at h4
      have h4' : ¬ x.2.2.2 = 1 := h4
      rw [hv3, zp_n, g3] at h5
      rw [← Int32.toInt_inj, g1] at h1
      rw [← Int32.toInt_inj, g2] at h2
      simp [seOk, h4', h5, h1, h2]
    · rw [← Int32.toInt_inj, g4] at h4
      have h4' : x.2.2.2 = 1 := h4
      have h5' : bnd k.toInt l (sk_at a c.toInt (i.toInt + 1)) x.2.2.1 = true := by
        rw [hv3, g3] at h5
        exact zp_n.mp (by rw [h5]; decide)
      simp [seOk, h4', h5']
    · rw [← Int32.toInt_inj, g4] at h4
      have h4' : x.2.2.2 = 1 := h4
      have h5' : ¬ bnd k.toInt l (sk_at a c.toInt (i.toInt + 1)) x.2.2.1 = true := by
        rw [hv3, g3] at h5
        exact fun q => h5 (zp_t q)
      rw [← Int32.toInt_inj, g1] at h1
      rw [← Int32.toInt_inj, g2] at h2
      simp [seOk, h4', h5', h1, h2]
theorem ms_X0_fits : zMS 4 yX0_fits cX0_fits 7 (some .boolean) sp_X0_fits := by
  intro d hd
  obtain ⟨d', rfl⟩ : ∃ d', d = d' + 4 := ⟨d - 4, by omega⟩
  refine zmethod (tab := tb_X0_fits) (cut := [(3, [6])]) (by decide) (tk_X0_fits d' ms_X3_wouldBind) ?_
  intro kd as M K h
  unfold sp_X0_fits at h
  split at h
  · rename_i t u k c i
    exact ⟨Nat.le_of_ble_eq_true rfl, fun X hX => mt_X0_fits hX t u k c i M h⟩
  · exact h.elim

set_option maxRecDepth 20000 in
theorem mt_X0_fitting {kd : Nat → Nat} {K : zK} {X : zX} (hX : ∀ (n pc : Nat) (ls : zLS) (st : List zV) (M : zM), zrun (tb_X0_fitting kd K) [(6, [])] n X pc ls st M → X pc ls st M) (t : Nat) (u : Nat) (c : Int32) (i : Int32) (M : zM) (h : (kd t = 5) ∧ (kd u = 3) ∧ ∃ L : List Se, (RpL (M.1 t) L) ∧ ∃ a : Sk, (RpS (M.1 u) a) ∧ ∃ l : Ly, (sk_at a c.toInt i.toInt = some l) ∧ ∀ v : Int32, (v.toInt = seFit L l (sk_at a c.toInt (i.toInt + 1)) c.toInt i.toInt) → K (some (zI v)) M) : X 0 [some (zR t 0), some (zR u 0), some (zI (c)), some (zI (i)), none, none] [] M := by
  obtain ⟨hk, hu, L, hL, a, ha, l, hl, hK⟩ := h
  refine vc_X0_fitting_0 hX (up (N := 6) (Q := fun j => ∀ w k : Int32, k.toInt = j → w.toInt = zsm (fun k => if L.all (seOk k l (sk_at a c.toInt (i.toInt + 1)) c.toInt i.toInt) then 2 ^ k else 0) j → X 6 [some (zR t 0), some (zR u 0), some (zI c), some (zI i), some (zI w), some (zI k)] [] M) (fun w k hkk hw => ?_) (fun j hj ih w k hkk hw => ?_) 0 (by omega) 0 0 rfl rfl)
  · refine vc_X0_fitting_6 hX hu hk ⟨fun _ => hK _ hw, fun q => ?_⟩
    simp only [Int32.lt_iff_toInt_lt, Int32.le_iff_toInt_le, ← Int32.toInt_inj, Int32.toInt_add, Int32.toInt_sub, Int32.toInt_mul, Int32.toInt_neg, Int.bmod, Int32.reduceToInt] at q; omega
  · have bw := zsm_bit (p := fun k => L.all (seOk k l (sk_at a c.toInt (i.toInt + 1)) c.toInt i.toInt)) j
    refine vc_X0_fitting_6 hX hu hk ⟨fun q => ?_, fun _ => ⟨L, hL, a, ha, l, hl, fun v1 hv1 => ⟨fun h1 => ih _ _ (z_inc hkk (by omega)) ?_, fun h1 => ih _ _ (z_inc hkk (by omega)) ?_⟩⟩⟩
    · simp only [Int32.lt_iff_toInt_lt, Int32.le_iff_toInt_le, ← Int32.toInt_inj, Int32.toInt_add, Int32.toInt_sub, Int32.toInt_mul, Int32.toInt_neg, Int.bmod, Int32.reduceToInt] at q; omega
    · rw [hv1, zp_0, hkk] at h1
      rw [zsm_s, hw, if_neg h1]; simp
    · rw [hv1, zp_n, hkk] at h1
      rw [zsm_s, z_orb hj hkk (by omega) (by omega), hw, if_pos h1]
theorem ms_X0_fitting : zMS 5 yX0_fitting cX0_fitting 6 (some .int) sp_X0_fitting := by
  intro d hd
  obtain ⟨d', rfl⟩ : ∃ d', d = d' + 5 := ⟨d - 5, by omega⟩
  refine zmethod (tab := tb_X0_fitting) (cut := [(6, [])]) (by decide) (tk_X0_fitting d' ms_X0_fits) ?_
  intro kd as M K h
  unfold sp_X0_fitting at h
  split at h
  · rename_i t u c i
    exact ⟨Nat.le_of_ble_eq_true rfl, fun X hX => mt_X0_fitting hX t u c i M h⟩
  · exact h.elim

set_option maxRecDepth 20000 in
theorem mt_X0_mixed {kd : Nat → Nat} {K : zK} {X : zX} (hX : ∀ (n pc : Nat) (ls : zLS) (st : List zV) (M : zM), zrun (tb_X0_mixed kd K) [(5, [])] n X pc ls st M → X pc ls st M) (t : Nat) (p : Int64) (M : zM) (h : (kd t = 5) ∧ ∃ L : List Se, (RpL (M.1 t) L) ∧ ∀ v : Int64, (v = L.foldl mxS p) → K (some (zL v)) M) : X 0 [some (zR t 0), some (zL (p)), none, none, none, none] [] M := by
  obtain ⟨hk, L, hL, hK⟩ := h
  have hs := hL.2.1
  have h6 := hL.1
  refine vc_X0_mixed_0 hX (up (N := L.length) (Q := fun j => ∀ x : Int64, ∀ n : Int32, n.toInt = j → x = (L.take j).foldl mxS p → X 5 [some (zR t 0), some (zL p), none, some (zL x), none, some (zI n)] [] M) (fun x n hn hx => ?_) (fun j hj ih x n hn hx => ?_) 0 (by omega) p 0 rfl rfl)
  · have fin : K (some (zL x)) M := hK _ (by rw [hx, List.take_length])
    exact vc_X0_mixed_5 hX hk ⟨fun _ => fin, fun q => ⟨fun _ => fin, fun _ => by simp only [Int32.lt_iff_toInt_lt, Int32.le_iff_toInt_le, ← Int32.toInt_inj, Int32.toInt_add, Int32.toInt_sub, Int32.toInt_mul, Int32.toInt_neg, Int.bmod, Int32.reduceToInt] at q; omega⟩⟩
  · have hget : L[j]? = some (L[j]'hj) := List.getElem?_eq_getElem hj
    generalize L[j]'hj = s at hget
    obtain ⟨g0, g1, g2, g3, g4⟩ := hL.2.2 j s hget
    have hnc : n.toNatClampNeg = j := by rw [z_cl]; omega
    have zz : ∀ o, 1 ≤ o → o ≤ 4 → zin (kd t) o 0 n := fun o h1 h4 => zin_of (n := 6) (by rw [hk]; rcases (show o = 1 ∨ o = 2 ∨ o = 3 ∨ o = 4 by omega) with rfl | rfl | rfl | rfl <;> rfl) (by omega) (by omega)
    refine vc_X0_mixed_5 hX hk ⟨fun q => ?_, fun _ => ⟨fun q => ?_, fun _ => ⟨zz 1 (by omega) (by omega), fun v1 e1 => ⟨zz 2 (by omega) (by omega), fun v2 e2 => ⟨zz 3 (by omega) (by omega), fun v3 e3 => ⟨zz 4 (by omega) (by omega), fun v4 e4 => ih _ _ (z_inc hn (by omega)) ?_⟩⟩⟩⟩⟩⟩
    · simp only [Int32.lt_iff_toInt_lt, Int32.le_iff_toInt_le, ← Int32.toInt_inj, Int32.toInt_add, Int32.toInt_sub, Int32.toInt_mul, Int32.toInt_neg, Int.bmod, Int32.reduceToInt] at q; omega
    · simp only [Int32.lt_iff_toInt_lt, Int32.le_iff_toInt_le, ← Int32.toInt_inj, Int32.toInt_add, Int32.toInt_sub, Int32.toInt_mul, Int32.toInt_neg, Int.bmod, Int32.reduceToInt] at q; omega
    · rw [hnc, z_i64, g1] at e1
      rw [hnc, z_i64, g2] at e2
      rw [hnc, z_i64, g3] at e3
      rw [hnc, z_i64, g4] at e4
      rw [List.take_add_one, hget, e4, e3, e2, e1, hx]
      simp only [Option.toList_some, List.foldl_append, List.foldl_cons, List.foldl_nil]
      rfl
theorem ms_X0_mixed : zMS 2 yX0_mixed cX0_mixed 6 (some .long) sp_X0_mixed := by
  intro d hd
  obtain ⟨d', rfl⟩ : ∃ d', d = d' + 2 := ⟨d - 2, by omega⟩
  refine zmethod (tab := tb_X0_mixed) (cut := [(5, [])]) (by decide) (tk_X0_mixed d' ms_X7_mix) ?_
  intro kd as M K h
  unfold sp_X0_mixed at h
  split at h
  · rename_i t p
    exact ⟨Nat.le_of_ble_eq_true rfl, fun X hX => mt_X0_mixed hX t p M h⟩
  · exact h.elim

set_option maxRecDepth 20000 in
theorem mt_X2_wipe {kd : Nat → Nat} {K : zK} {X : zX} (hX : ∀ (n pc : Nat) (ls : zLS) (st : List zV) (M : zM), zrun (tb_X2_wipe kd K) [] n X pc ls st M → X pc ls st M) (t : Nat) (M : zM) (h : (kd t = 2) ∧ (kd (t + 1) = 3) ∧ (kd (t + 2) = 4) ∧ (kd (t + 3) = 5) ∧ ∀ S1 : zB, (RpS S1 sk_0) → ∀ S2 : zB, (RpT S2 []) → ∀ S3 : zB, (RpL S3 []) → ∀ M' : zM, (M' = zbs (zbs (zbs M (t + 1) S1) (t + 2) S2) (t + 3) S3) → K none M') : X 0 [some (zR t 0)] [] M := by
  obtain ⟨hk, hk1, hk2, hk3, hK⟩ := h
  refine vc_X2_wipe_0 hX hk3 hk hk2 hk1 (fun S1 h1 M1 e1 M2 e2 M3 e3 => hK S1 h1 (zrw (M.1 (t + 2)) 0 (upd (M.1 (t + 2) 0) 1 0)) ⟨by simp, by simp [zrw, upd], fun i z hz => by simp at hz⟩ (zrw (M.1 (t + 3)) 0 (upd (M.1 (t + 3) 0) 4 0)) ⟨by simp, by simp [zrw, upd], fun i z hz => by simp at hz⟩ M3 ?_)
  rw [zmw_bs] at e2 e3
  have f1 : M1.1 (t + 2) = M.1 (t + 2) := by rw [e1, zbs_ne (by omega)]
  have f2 : M2.1 (t + 3) = M.1 (t + 3) := by rw [e2, zbs_ne (by omega), e1, zbs_ne (by omega)]
  rw [e3, f2, e2, f1, e1]
theorem ms_X2_wipe : zMS 2 yX2_wipe cX2_wipe 1 none sp_X2_wipe := by
  intro d hd
  obtain ⟨d', rfl⟩ : ∃ d', d = d' + 2 := ⟨d - 2, by omega⟩
  refine zmethod (tab := tb_X2_wipe) (cut := []) (by decide) (tk_X2_wipe d' ms_X3_wipe) ?_
  intro kd as M K h
  unfold sp_X2_wipe at h
  split at h
  · rename_i t
    exact ⟨Nat.le_of_ble_eq_true rfl, fun X hX => mt_X2_wipe hX t M h⟩
  · exact h.elim

set_option maxRecDepth 20000 in
theorem mt_X2_take {kd : Nat → Nat} {K : zK} {X : zX} (hX : ∀ (n pc : Nat) (ls : zLS) (st : List zV) (M : zM), zrun (tb_X2_take kd K) [] n X pc ls st M → X pc ls st M) (t : Nat) (u : Nat) (M : zM) (h : (kd t = 2) ∧ (kd (t + 1) = 3) ∧ (kd (t + 2) = 4) ∧ (kd (t + 3) = 5) ∧ (kd u = 2) ∧ (kd (u + 1) = 3) ∧ (kd (u + 2) = 4) ∧ (kd (u + 3) = 5) ∧ (t + 3 < u ∨ u + 3 < t) ∧ ∃ a : Sk, (RpS (M.1 (u + 1)) a) ∧ ∃ L : List Int, (RpT (M.1 (u + 2)) L) ∧ ∃ Q : List Se, (RpL (M.1 (u + 3)) Q) ∧ ∀ S1 : zB, (RpS S1 a) → ∀ S2 : zB, (RpT S2 L) → ∀ S3 : zB, (RpL S3 Q) → ∀ M' : zM, (M' = zbs (zbs (zbs M (t + 1) S1) (t + 2) S2) (t + 3) S3) → K none M') : X 0 [some (zR t 0), some (zR u 0)] [] M := by
  obtain ⟨hk, hk1, hk2, hk3, gk, gk1, gk2, gk3, hne, a, ha, L, hL, Q, hQ, hK⟩ := h
  refine vc_X2_take_0 hX gk3 hk3 gk hk gk2 hk2 gk1 hk1 ⟨by omega, a, ha, fun S1 h1 M1 e1 => ⟨by omega, L, ?_, fun S2 h2 M2 e2 => ⟨by omega, Q, ?_, fun S3 h3 M3 e3 => hK S1 h1 S2 h2 S3 h3 M3 (by rw [e3, e2, e1])⟩⟩⟩
  · rw [e1, zbs_ne (by omega)]; exact hL
  · rw [e2, zbs_ne (by omega), e1, zbs_ne (by omega)]; exact hQ
theorem ms_X2_take : zMS 2 yX2_take cX2_take 2 none sp_X2_take := by
  intro d hd
  obtain ⟨d', rfl⟩ : ∃ d', d = d' + 2 := ⟨d - 2, by omega⟩
  refine zmethod (tab := tb_X2_take) (cut := []) (by decide) (tk_X2_take d' ms_X3_take ms_X4_take ms_X0_take) ?_
  intro kd as M K h
  unfold sp_X2_take at h
  split at h
  · rename_i t u
    exact ⟨Nat.le_of_ble_eq_true rfl, fun X hX => mt_X2_take hX t u M h⟩
  · exact h.elim

