theorem vp_b1 : vp_nar .boolean (1 : Int32) = 1 := rfl
set_option maxRecDepth 20000 in
theorem mt_X8_image {kd : Nat → Nat} {K : zK} {X : zX} (hX : ∀ (n pc : Nat) (ls : zLS) (st : List zV) (M : zM), zrun (tb_X8_image kd K) [(19, [])] n X pc ls st M → X pc ls st M) (j : Int32) (M : zM) (h : (kd 9 = 8) ∧ ∃ s : St, (RpM M s) ∧ ∀ v : Int32, (v.toInt = (ev_image s j.toInt).1) → ∀ M' : zM, (RpM M' (ev_image s j.toInt).2) → (fr0 M M') → K (some (zI v)) M') : X 0 [some (zR 9 0), some (zI (j)), none] [] M := by
  obtain ⟨hk, s, hR, hK⟩ := h
  refine vc_X8_image_0 hX hk (fun v1 h1 => ?_)
  rw [Int32.toInt_toInt64] at h1
  have h1' : v1 = zp (0 ≤ j.toInt ∧ j.toInt ≤ 1) := h1
  refine ⟨fun q => ?_, fun q v3 h3 M3 e3 => ?_⟩
  · rw [h1', zp_n] at q
    obtain ⟨n, hn⟩ : ∃ n : Nat, j.toInt = n := ⟨j.toInt.toNat, by omega⟩
    have hnc : j.toNatClampNeg = n := by rw [z_cl]; omega
    have hnt : j.toInt.toNat = n := by omega
    have hev : ev_image s j.toInt = (1, (s.1, fun k => if k = n then some s.1 else s.2.1 k, s.2.2)) := by unfold ev_image; rw [if_pos q, hnt]
    rw [hev] at hK
    refine up (N := 915) (Q := fun i => ∀ (M1 : zM) (k : Int32), k.toInt = i → (∀ m, m < i → M1.1 9 2 (915 * n + m) = M.1 9 1 m) → (∀ m, (m < 915 * n ∨ 915 * n + 915 ≤ m) → M1.1 9 2 m = M.1 9 2 m) → (∃ F, M1 = zmw M 9 2 F) → X 19 [some (zR 9 0), some (zI j), some (zI k)] [] M1) (fun M1 k hk1 h0 h2 e1 => ?_) (fun i hi ih M1 k hk1 h0 h2 e1 => ?_) 0 (by omega) M 0 rfl (fun m hm => absurd hm (by omega)) (fun m _ => rfl) ⟨_, zmw_sf⟩
    · refine vc_X8_image_19 hX hk ⟨fun _ => ?_, fun q => by simp only [Int32.lt_iff_toInt_lt, Int32.le_iff_toInt_le, ← Int32.toInt_inj, Int32.toInt_add, Int32.toInt_sub, Int32.toInt_mul, Int32.toInt_neg, Int.bmod, Int32.reduceToInt] at q; omega⟩
      rw [hnc, vp_b1]
      refine ⟨zin_of (n := 2) (by rw [hk]; rfl) (by omega) (by omega), fun M2 e2 => ?_⟩
      obtain ⟨F, e1⟩ := e1
      have go : ∀ p, p ≠ 2 → p ≠ 3 → M2.1 9 p = M.1 9 p := fun p p2 p3 => by rw [e2, zmw_o p3, e1, zmw_o p2]
      have g2 : M2.1 9 2 = M1.1 9 2 := by rw [e2, zmw_o (by decide)]
      have g3 : M2.1 9 3 = upd (M.1 9 3) n 1 := by rw [e2, zmw_at, e1, zmw_o (by decide)]
      have gm : M2.2 = M.2 := by rw [e2, zmw_2, e1, zmw_2]
      refine hK _ rfl M2 ⟨by rw [go 1 (by decide) (by decide)]; exact hR.1, fun i hi => ?_, hR.2.2.1.congr (by rw [go 0 (by decide) (by decide)]) (go 9 (by decide) (by decide)), by rw [gm]; exact hR.2.2.2.1, fun m hm => by rw [go 4 (by decide) (by decide)]; exact hR.2.2.2.2 m hm⟩ (by rw [e2, e1]; exact fr0_mw.tr fr0_mw)
      rw [g2, g3]
      by_cases hin : i = n
      · subst hin
        simp only [if_true]
        refine ⟨⟨fun _ => by rw [upd_at]; decide, fun _ => rfl⟩, fun r hr => ?_⟩
        rw [← Option.some.inj hr]
        exact hR.1.congr (fun k hk => h0 k hk)
      · simp only [if_neg hin]
        rw [upd_ne hin]
        refine ⟨(hR.2.1 i hi).1, fun r hr => ((hR.2.1 i hi).2 r hr).congr (fun k hk => h2 _ ?_)⟩
        have : n = 0 ∨ n = 1 := by omega
        have : i = 0 ∨ i = 1 := by omega
        omega
    · have hkn : k.toNatClampNeg = i := by rw [z_cl]; omega
      have hq : ((915 : Int32) * j + k).toInt = 915 * n + i := by simp only [Int32.lt_iff_toInt_lt, Int32.le_iff_toInt_le, ← Int32.toInt_inj, Int32.toInt_add, Int32.toInt_sub, Int32.toInt_mul, Int32.toInt_neg, Int.bmod, Int32.reduceToInt]; omega
      have hqn : ((915 : Int32) * j + k).toNatClampNeg = 915 * n + i := by rw [z_cl]; omega
      obtain ⟨F, e1⟩ := e1
      have g1 : M1.1 9 1 = M.1 9 1 := by rw [e1, zmw_o (by decide)]
      refine vc_X8_image_19 hX hk ⟨fun q => by simp only [Int32.lt_iff_toInt_lt, Int32.le_iff_toInt_le, ← Int32.toInt_inj, Int32.toInt_add, Int32.toInt_sub, Int32.toInt_mul, Int32.toInt_neg, Int.bmod, Int32.reduceToInt] at q; omega, fun _ => ?_⟩
      rw [hkn, hqn, g1]
      refine ⟨zin_of (n := 915) (by rw [hk]; rfl) (by omega) (by omega), zin_of (n := 1830) (by rw [hk]; rfl) (by omega) (by omega), fun M3 e3 => ?_⟩
      have g3 : M3.1 9 2 = upd (M1.1 9 2) (915 * n + i) (M.1 9 1 i) := by rw [e3, zmw_at]
      refine ih M3 (k + 1) (z_inc hk1 (by omega)) (fun m hm => ?_) (fun m hm => ?_) ⟨_, zmw_ex e1 e3⟩
      · rw [g3]
        by_cases hmi : m = i
        · subst hmi; rw [upd_at]
        · rw [upd_ne (by omega)]; exact h0 m (by omega)
      · rw [g3, upd_ne (by omega)]; exact h2 m hm
  · rw [h1', zp_0] at q
    exact mrf hR hK 0 (-2) (by decide) (by rw [h3]; rfl) (by unfold ev_image; rw [if_neg q]) e3
theorem ms_X8_image : zMS 2 yX8_image cX8_image 3 (some .int) sp_X8_image := by
  intro d hd
  obtain ⟨d', rfl⟩ : ∃ d', d = d' + 2 := ⟨d - 2, by omega⟩
  refine zmethod (tab := tb_X8_image) (cut := [(19, [])]) (by decide) (tk_X8_image d' ms_X8_in ms_X8_bad) ?_
  intro kd as M K h
  unfold sp_X8_image at h
  split at h
  · rename_i j
    exact ⟨Nat.le_of_ble_eq_true rfl, fun X hX => mt_X8_image hX j M h⟩
  · exact h.elim

