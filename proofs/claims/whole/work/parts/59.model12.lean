set_option maxRecDepth 20000 in
theorem mt_X8_ends {kd : Nat → Nat} {K : zK} {X : zX} (hX : ∀ (n pc : Nat) (ls : zLS) (st : List zV) (M : zM), zrun (tb_X8_ends kd K) [(24, [])] n X pc ls st M → X pc ls st M) (c : Int32) (i : Int32) (M : zM) (h : (kd 9 = 8) ∧ ∃ s : St, (RpM M s) ∧ ∀ v : Int32, (er_ends s c.toInt i.toInt v.toInt) → ∀ M' : zM, (RpM M' (es_ends s c.toInt i.toInt)) → (fr0 M M') → K (some (zI v)) M') : X 0 [some (zR 9 0), some (zI (c)), some (zI (i)), none] [] M := by
  obtain ⟨hk, s, hR, hK⟩ := h
  have z126 : zin (kd 9) 1 0 (126 : Int32) := zin_of (n := 915) (by rw [hk]; rfl) (by decide) (by decide)
  refine vc_X8_ends_0 hX hk ⟨_, hR.1.1, fun v1 h1 => ⟨fun q f2 hf2 M2 e2 => ?_, fun q v3 h3 M3 e3 => ?_⟩⟩
  · rw [h1, zp_n] at q
    have hs := hR.sc (by decide) e2
    have hes : es_ends s c.toInt i.toInt = s := by unfold es_ends; rw [if_pos q]
    rw [hes] at hK
    have ha : RpF (M2.1 9 5) s.1.1 := by rw [e2, zmw_at]; exact hR.1.1.congr hf2
    have hy : (M2.1 9 1 126).toInt = s.1.1.2 := hs.1.1.1.2.2
    have hyb := hR.1.1.1.1
    have y9 : ∀ y : Int32, y = 999 ↔ y.toInt = 999 := fun y => by rw [← Int32.toInt_inj]; exact Iff.rfl
    have hE : ∀ v : Int32, sk_isE s.1.1 c.toInt i.toInt v.toInt → K (some (zI v)) M2 := fun v hv => hK v (by unfold er_ends; rw [if_pos q]; exact hv) M2 hs.1 hs.2
    obtain ⟨N, hN⟩ : ∃ N : Nat, (N : Int) = 1000 - s.1.1.2 := ⟨(1000 - s.1.1.2).toNat, by omega⟩
    refine up (N := N) (Q := fun j => ∀ y : Int32, y.toInt = 999 - (j : Int) → (∀ z : Int, y.toInt < z → z ≤ 999 → sk_bd s.1.1 c.toInt i.toInt z = false) → X 24 [some (zR 9 0), some (zI c), some (zI i), some (zI y)] [] M2) (fun y hyj hno => ?_) (fun j hj ih y hyj hno => ?_) 0 (by omega) 999 rfl (fun z z0 z1 => absurd z0 (by show ¬ (999 : Int) < z; omega))
    · refine vc_X8_ends_24 hX hk ?_
      rw [n126]
      refine ⟨z126, fun _ => ⟨fun _ => hE _ ?_, fun q9 => ?_⟩, fun q2 => ?_⟩
      · have hv : (y + (1 : Int32)).toInt = s.1.1.2 := by simp only [Int32.lt_iff_toInt_lt, Int32.le_iff_toInt_le, ← Int32.toInt_inj, Int32.toInt_add, Int32.toInt_sub, Int32.toInt_mul, Int32.toInt_neg, Int.bmod, Int32.reduceToInt]; omega
        rw [hv]
        exact Or.inr ⟨by omega, by omega, fun z z0 z1 => hno z (by omega) z1, Or.inl rfl⟩
      · rw [y9] at q9; omega
      · rw [Int32.lt_iff_toInt_lt, hy] at q2; omega
    · refine vc_X8_ends_24 hX hk ?_
      rw [n126]
      refine ⟨z126, fun q2 => ?_, fun q2 => ⟨s.1.1, ha, (fun e => by rw [e] at q; exact absurd q (by decide)), by omega, fun v1 hv1 => ⟨fun q3 => ⟨fun q9 => hE _ ?_, fun q9 => hE _ ?_⟩, fun q3 => ?_⟩⟩⟩
      · rw [Int32.lt_iff_toInt_lt, hy] at q2; omega
      · rw [hv1, zp_n] at q3
        rw [y9] at q9
        have hv : (y + (1 : Int32)).toInt = y.toInt + 1 := by simp only [Int32.lt_iff_toInt_lt, Int32.le_iff_toInt_le, ← Int32.toInt_inj, Int32.toInt_add, Int32.toInt_sub, Int32.toInt_mul, Int32.toInt_neg, Int.bmod, Int32.reduceToInt]; omega
        rw [hv]
        exact Or.inr ⟨by omega, by omega, fun z z0 z1 => hno z (by omega) z1, Or.inr (by rw [show y.toInt + 1 - 1 = y.toInt by omega]; exact q3)⟩
      · rw [hv1, zp_n] at q3
        rw [y9] at q9
        rw [q9] at q3
        exact Or.inl ⟨rfl, q3⟩
      · rw [hv1, zp_0] at q3
        have hv : (y + (-1 : Int32)).toInt = y.toInt - 1 := by simp only [Int32.lt_iff_toInt_lt, Int32.le_iff_toInt_le, ← Int32.toInt_inj, Int32.toInt_add, Int32.toInt_sub, Int32.toInt_mul, Int32.toInt_neg, Int.bmod, Int32.reduceToInt]; omega
        refine ih _ (by rw [hv]; omega) (fun z z0 z1 => ?_)
        rw [hv] at z0
        by_cases hz : z = y.toInt
        · rw [hz]; simpa using q3
        · exact hno z (by omega) z1
  · rw [h1, zp_0] at q
    have hes : es_ends s c.toInt i.toInt = sRf s 0 := by unfold es_ends; rw [if_neg q]
    rw [hes] at hK
    have := hR.rf e3 (by decide)
    exact hK _ (by unfold er_ends; rw [if_neg q, h3]; rfl) M3 this.1 this.2
theorem ms_X8_ends : zMS 6 yX8_ends cX8_ends 4 (some .int) sp_X8_ends := by
  intro d hd
  obtain ⟨d', rfl⟩ : ∃ d', d = d' + 6 := ⟨d - 6, by omega⟩
  refine zmethod (tab := tb_X8_ends) (cut := [(24, [])]) (by decide) (tk_X8_ends d' ms_X8_isLayer ms_X8_bad ms_X8_layHand ms_X8_bindsNow) ?_
  intro kd as M K h
  unfold sp_X8_ends at h
  split at h
  · rename_i c i
    exact ⟨Nat.le_of_ble_eq_true rfl, fun X hX => mt_X8_ends hX c i M h⟩
  · exact h.elim

