theorem n127 : (127 : Int32).toNatClampNeg = 127 := rfl
set_option maxRecDepth 20000 in
theorem mt_X8_seen {kd : Nat → Nat} {K : zK} {X : zX} (hX : ∀ (n pc : Nat) (ls : zLS) (st : List zV) (M : zM), zrun (tb_X8_seen kd K) [] n X pc ls st M → X pc ls st M) (c : Int32) (i : Int32) (y : Int32) (e : Int32) (M : zM) (h : (kd 9 = 8) ∧ ∃ s : St, (RpM M s) ∧ ∀ v : Int32, (v.toInt = (ev_seen s c.toInt i.toInt y.toInt e.toInt).1) → ∀ M' : zM, (RpM M' (ev_seen s c.toInt i.toInt y.toInt e.toInt).2) → (fr0 M M') → K (some (zI v)) M') : X 0 [some (zR 9 0), some (zI (c)), some (zI (i)), some (zI (y)), some (zI (e)), none] [] M := by
  obtain ⟨hk, s, hR, hK⟩ := h
  have z127 : zin (kd 9) 1 0 (127 : Int32) := zin_of (n := 915) (by rw [hk]; rfl) (by decide) (by decide)
  obtain ⟨n, hn⟩ : ∃ n : Nat, s.1.2.2.length = n := ⟨_, rfl⟩
  have h6 : n ≤ 6 := by rw [← hn]; exact hR.1.2.1.1
  have h127 : (M.1 9 1 127).toInt = (n : Int) := by rw [← hn]; exact hR.1.2.1.2.1
  have t0 : ((129 : Int32) + (4 : Int32) * M.1 9 1 127).toInt = 129 + 4 * n := by simp only [Int32.lt_iff_toInt_lt, Int32.le_iff_toInt_le, ← Int32.toInt_inj, Int32.toInt_add, Int32.toInt_sub, Int32.toInt_mul, Int32.toInt_neg, Int.bmod, Int32.reduceToInt]; omega
  have t1 : ((129 : Int32) + (4 : Int32) * M.1 9 1 127 + (1 : Int32)).toInt = 129 + 4 * n + 1 := by simp only [Int32.lt_iff_toInt_lt, Int32.le_iff_toInt_le, ← Int32.toInt_inj, Int32.toInt_add, Int32.toInt_sub, Int32.toInt_mul, Int32.toInt_neg, Int.bmod, Int32.reduceToInt]; omega
  have t2 : ((129 : Int32) + (4 : Int32) * M.1 9 1 127 + (2 : Int32)).toInt = 129 + 4 * n + 2 := by simp only [Int32.lt_iff_toInt_lt, Int32.le_iff_toInt_le, ← Int32.toInt_inj, Int32.toInt_add, Int32.toInt_sub, Int32.toInt_mul, Int32.toInt_neg, Int.bmod, Int32.reduceToInt]; omega
  have t3 : ((129 : Int32) + (4 : Int32) * M.1 9 1 127 + (3 : Int32)).toInt = 129 + 4 * n + 3 := by simp only [Int32.lt_iff_toInt_lt, Int32.le_iff_toInt_le, ← Int32.toInt_inj, Int32.toInt_add, Int32.toInt_sub, Int32.toInt_mul, Int32.toInt_neg, Int.bmod, Int32.reduceToInt]; omega
  have u0 : ((129 : Int32) + (4 : Int32) * M.1 9 1 127).toNatClampNeg = 129 + 4 * n := by rw [z_cl]; omega
  have u1 : ((129 : Int32) + (4 : Int32) * M.1 9 1 127 + (1 : Int32)).toNatClampNeg = 129 + 4 * n + 1 := by rw [z_cl]; omega
  have u2 : ((129 : Int32) + (4 : Int32) * M.1 9 1 127 + (2 : Int32)).toNatClampNeg = 129 + 4 * n + 2 := by rw [z_cl]; omega
  have u3 : ((129 : Int32) + (4 : Int32) * M.1 9 1 127 + (3 : Int32)).toNatClampNeg = 129 + 4 * n + 3 := by rw [z_cl]; omega
  refine vc_X8_seen_0 hX hk ⟨_, hR.1.1, fun v1 h1 => ?_⟩
  rw [n127, Int32.toInt_toInt64, u0, u1, u2, u3]
  refine ⟨fun q v2 h2 M2 e2 => ?_, fun q v3 h3 => ⟨fun q3 v4 h4 M4 e4 => ?_, fun q3 v5 h5 => ⟨fun q5 => ⟨z127, fun q6 => ⟨z127, zin_of (n := 915) (by rw [hk]; rfl) (by omega) (by omega), fun M6 e6 => ⟨zin_of (n := 915) (by rw [hk]; rfl) (by omega) (by omega), fun M7 e7 => ⟨zin_of (n := 915) (by rw [hk]; rfl) (by omega) (by omega), fun M8 e8 => ⟨zin_of (n := 915) (by rw [hk]; rfl) (by omega) (by omega), fun M9 e9 => ⟨z127, z127, fun M10 e10 => ⟨z127, ?_⟩⟩⟩⟩⟩⟩, fun q6 v11 h11 M11 e11 => ?_⟩, fun q5 v12 h12 M12 e12 => ?_⟩⟩⟩
  · rw [h1, zp_0] at q
    exact mrf hR hK 0 (-2) (by decide) (by rw [h2]; rfl) (by unfold ev_seen; rw [if_neg (fun x => q x.1)]) e2
  · rw [h3, zp_0] at q3
    exact mrf hR hK 0 (-2) (by decide) (by rw [h4]; rfl) (by unfold ev_seen; rw [if_neg (fun x => q3 x.2.1)]) e4
  · rw [h1, zp_n] at q
    rw [h3, zp_n] at q3
    rw [h5, zp_n] at q5
    have q5' : 0 ≤ e.toInt ∧ e.toInt ≤ 1 := q5
    rw [← Int32.toInt_inj, h127] at q6
    have q6' : ¬ (n : Int) = 6 := q6
    have hev : ev_seen s c.toInt i.toInt y.toInt e.toInt = ((s.1.2.2.length : Int) + 1, sRo s (s.1.1, s.1.2.1, s.1.2.2 ++ [(c.toInt, i.toInt, y.toInt, e.toInt)])) := by unfold ev_seen; rw [if_pos ⟨q, q3, q5'⟩, if_pos (by omega)]
    rw [e6, zmw_at, zmw_mw] at e7
    rw [e7, zmw_at, zmw_mw] at e8
    rw [e8, zmw_at, zmw_mw] at e9
    rw [e9, zmw_at, zmw_mw] at e10
    have g : (M10.1 9 1 127).toInt = (n : Int) + 1 := by
      rw [e10, zmw_at, upd_at, upd_ne (by omega), upd_ne (by omega), upd_ne (by omega), upd_ne (by omega)]
      exact z_inc h127 (by omega)
    have lo : ∀ m, m ≠ 127 → (m < 129 + 4 * n ∨ 129 + 4 * n + 4 ≤ m) → M10.1 9 1 m = M.1 9 1 m := fun m m1 m2 => by
      rw [e10, zmw_at, upd_ne m1, upd_ne (by omega), upd_ne (by omega), upd_ne (by omega), upd_ne (by omega)]
    have hw : RpW (M10.1 9 1) (s.1.1, s.1.2.1, s.1.2.2 ++ [(c.toInt, i.toInt, y.toInt, e.toInt)]) := by
      refine ⟨hR.1.1.congr (fun k hk => lo k (by omega) (by omega)), ⟨by rw [List.length_append]; simp; omega, by rw [g, List.length_append, hn]; rfl, fun m x hx => ?_⟩, ⟨hR.1.2.2.1, by rw [lo 128 (by decide) (by omega)]; exact hR.1.2.2.2.1, fun m b hb => ?_⟩⟩
      · have hm := (List.getElem?_eq_some_iff.mp hx).1
        rw [List.length_append, List.length_singleton] at hm
        by_cases hmn : m = n
        · subst hmn
          rw [List.getElem?_append_right (by omega)] at hx
          simp [hn] at hx
          rw [← hx, e10, zmw_at]
          refine ⟨⟨q3, by show e.toInt = 0 ∨ e.toInt = 1; omega⟩, ?_, ?_, ?_, ?_⟩
          · rw [upd_ne (by omega), upd_ne (by omega), upd_ne (by omega), upd_ne (by omega), upd_at]
          · rw [upd_ne (by omega), upd_ne (by omega), upd_ne (by omega), upd_at]
          · rw [upd_ne (by omega), upd_ne (by omega), upd_at]
          · rw [upd_ne (by omega), upd_at]
        · rw [List.getElem?_append_left (by omega)] at hx
          rw [lo _ (by omega) (by omega), lo _ (by omega) (by omega), lo _ (by omega) (by omega), lo _ (by omega) (by omega)]
          exact hR.1.2.1.2.2 m x hx
      · exact (hR.1.2.2.2.2 m b hb).congr (fun k hk => lo _ (by omega) (by omega))
    have e10' : M10 = zmw M 9 1 (M10.1 9 1) := by
      conv => rhs; rw [e10, zmw_at]
      exact e10
    have := hR.w1 hw e10'
    exact hK _ (by rw [hev, hn]; exact g) M10 (by rw [hev]; exact this.1) this.2
  · rw [h1, zp_n] at q
    rw [h3, zp_n] at q3
    rw [h5, zp_n] at q5
    rw [← Int32.toInt_inj, h127] at q6
    have q6' : (n : Int) = 6 := q6
    exact mrf hR hK 2 (-4) (by decide) h11 (by unfold ev_seen; rw [if_pos ⟨q, q3, q5⟩, if_neg (by omega)]) e11
  · rw [h5, zp_0] at q5
    exact mrf hR hK 0 (-2) (by decide) (by rw [h12]; rfl) (by unfold ev_seen; rw [if_neg (fun x => q5 x.2.2)]) e12
theorem ms_X8_seen : zMS 4 yX8_seen cX8_seen 6 (some .int) sp_X8_seen := by
  intro d hd
  obtain ⟨d', rfl⟩ : ∃ d', d = d' + 4 := ⟨d - 4, by omega⟩
  refine zmethod (tab := tb_X8_seen) (cut := []) (by decide) (tk_X8_seen d' ms_X8_isLayer ms_X8_isYear ms_X8_in ms_X8_bad ms_X8_full) ?_
  intro kd as M K h
  unfold sp_X8_seen at h
  split at h
  · rename_i c i y e
    exact ⟨Nat.le_of_ble_eq_true rfl, fun X hX => mt_X8_seen hX c i y e M h⟩
  · exact h.elim

