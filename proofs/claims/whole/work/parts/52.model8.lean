theorem RpM.sc {M M' : zM} {s : St} {o : Nat} {f : Nat → Int32} (h : RpM M s) (ho : 5 ≤ o ∧ o ≠ 9) (e : M' = zmw M 9 o f) : RpM M' s ∧ fr0 M M' := by
  have go : ∀ p, p ≠ o → M'.1 9 p = M.1 9 p := fun p p0 => by rw [e, zmw_o p0]
  exact ⟨h.g (M' := M') (r := s.1) (b := s.2.2.1) (by rw [go 1 (by omega)]; exact h.1) (h.2.2.1.congr (by rw [go 0 (by omega)]) (go 9 (by omega))) (go 2 (by omega)) (go 3 (by omega)) (go 4 (by omega)) (by rw [e, zmw_2]), by rw [e]; exact fr0_mw⟩
theorem RpM.s0 {M M' : zM} {s : St} {f : Nat → Int32} (h : RpM M s) (hf : f 16 = M.1 9 0 16) (e : M' = zmw M 9 0 f) : RpM M' s ∧ fr0 M M' := by
  have go : ∀ p, p ≠ 0 → M'.1 9 p = M.1 9 p := fun p p0 => by rw [e, zmw_o p0]
  exact ⟨h.g (M' := M') (r := s.1) (b := s.2.2.1) (by rw [go 1 (by decide)]; exact h.1) (h.2.2.1.congr (by rw [e, zmw_at]; exact hf) (go 9 (by decide))) (go 2 (by decide)) (go 3 (by decide)) (go 4 (by decide)) (by rw [e, zmw_2]), by rw [e]; exact fr0_mw⟩
set_option maxRecDepth 20000 in
theorem mt_X8_binds {kd : Nat → Nat} {K : zK} {X : zX} (hX : ∀ (n pc : Nat) (ls : zLS) (st : List zV) (M : zM), zrun (tb_X8_binds kd K) [] n X pc ls st M → X pc ls st M) (c : Int32) (i : Int32) (y : Int32) (M : zM) (h : (kd 9 = 8) ∧ ∃ s : St, (RpM M s) ∧ ∀ v : Int32, (v.toInt = (ev_binds s c.toInt i.toInt y.toInt).1) → ∀ M' : zM, (RpM M' (ev_binds s c.toInt i.toInt y.toInt).2) → (fr0 M M') → K (some (zI v)) M') : X 0 [some (zR 9 0), some (zI (c)), some (zI (i)), some (zI (y))] [] M := by
  obtain ⟨hk, s, hR, hK⟩ := h
  refine vc_X8_binds_0 hX hk ⟨_, hR.1.1, fun v1 h1 => ⟨fun q v2 h2 M2 e2 => ?_, fun q v3 h3 => ⟨fun q3 f4 hf4 M4 e4 => ?_, fun q3 v6 h6 M6 e6 => ?_⟩⟩⟩
  · rw [h1, zp_0] at q
    exact mrf hR hK 0 (-2) (by decide) (by rw [h2]; rfl) (by unfold ev_binds; rw [if_neg (fun x => q x.1)]) e2
  · rw [h1, zp_n] at q
    rw [h3, zp_n] at q3
    have hs := hR.sc (by decide) e4
    have hev : ev_binds s c.toInt i.toInt y.toInt = (b2i (sk_bd s.1.1 c.toInt i.toInt y.toInt), s) := by unfold ev_binds; rw [if_pos ⟨q, q3⟩]
    rw [hev] at hK
    refine ⟨s.1.1, by rw [e4, zmw_at]; exact hR.1.1.congr hf4, (fun e => by rw [e] at q; exact absurd q (by decide)), by omega, fun v5 h5 => ⟨fun q5 => hK _ ?_ M4 hs.1 hs.2, fun q5 => hK _ ?_ M4 hs.1 hs.2⟩⟩
    · rw [h5, zp_0] at q5
      simp [b2i, q5]
    · rw [h5, zp_n] at q5
      simp [b2i, q5]
  · rw [h3, zp_0] at q3
    exact mrf hR hK 0 (-2) (by decide) (by rw [h6]; rfl) (by unfold ev_binds; rw [if_neg (fun x => q3 x.2)]) e6
theorem ms_X8_binds : zMS 6 yX8_binds cX8_binds 4 (some .int) sp_X8_binds := by
  intro d hd
  obtain ⟨d', rfl⟩ : ∃ d', d = d' + 6 := ⟨d - 6, by omega⟩
  refine zmethod (tab := tb_X8_binds) (cut := []) (by decide) (tk_X8_binds d' ms_X8_isLayer ms_X8_isYear ms_X8_bad ms_X8_layHand ms_X8_bindsNow) ?_
  intro kd as M K h
  unfold sp_X8_binds at h
  split at h
  · rename_i c i y
    exact ⟨Nat.le_of_ble_eq_true rfl, fun X hX => mt_X8_binds hX c i y M h⟩
  · exact h.elim

set_option maxRecDepth 20000 in
theorem mt_X8_rule {kd : Nat → Nat} {K : zK} {X : zX} (hX : ∀ (n pc : Nat) (ls : zLS) (st : List zV) (M : zM), zrun (tb_X8_rule kd K) [] n X pc ls st M → X pc ls st M) (g : Int32) (y : Int32) (M : zM) (h : (kd 9 = 8) ∧ ∃ s : St, (RpM M s) ∧ ∀ v : Int32, (v.toInt = (ev_rule s g.toInt y.toInt).1) → ∀ M' : zM, (RpM M' (ev_rule s g.toInt y.toInt).2) → (fr0 M M') → K (some (zI v)) M') : X 0 [some (zR 9 0), some (zI (g)), some (zI (y))] [] M := by
  obtain ⟨hk, s, hR, hK⟩ := h
  refine vc_X8_rule_0 hX hk (fun v1 h1 => ⟨fun q v2 h2 M2 e2 => ?_, fun q v3 h3 => ⟨fun q3 f4 hf4 M4 e4 => ?_, fun q3 v6 h6 M6 e6 => ?_⟩⟩)
  · rw [h1, zp_0] at q
    exact mrf hR hK 0 (-2) (by decide) (by rw [h2]; rfl) (by unfold ev_rule; rw [if_neg (fun x => q x.1)]) e2
  · rw [h1, zp_n] at q
    rw [h3, zp_n] at q3
    have hs := hR.sc (by decide) e4
    have hev : ev_rule s g.toInt y.toInt = (sk_law s.1.1 g.toInt y.toInt, s) := by unfold ev_rule; rw [if_pos ⟨q, q3⟩]
    rw [hev] at hK
    refine ⟨s.1.1, by rw [e4, zmw_at]; exact hR.1.1.congr hf4, by omega, fun v5 h5 f5 hf5 M5 e5 => ?_⟩
    have hs5 := hs.1.s0 (hf5.2.2 16 (by decide) (by decide)) e5
    exact hK _ h5 M5 hs5.1 (hs.2.tr hs5.2)
  · rw [h3, zp_0] at q3
    exact mrf hR hK 0 (-2) (by decide) (by rw [h6]; rfl) (by unfold ev_rule; rw [if_neg (fun x => q3 x.2)]) e6
theorem ms_X8_rule : zMS 8 yX8_rule cX8_rule 3 (some .int) sp_X8_rule := by
  intro d hd
  obtain ⟨d', rfl⟩ : ∃ d', d = d' + 8 := ⟨d - 8, by omega⟩
  refine zmethod (tab := tb_X8_rule) (cut := []) (by decide) (tk_X8_rule d' ms_X8_isThing ms_X8_isYear ms_X8_bad ms_X8_layHand ms_X8_ruleOf) ?_
  intro kd as M K h
  unfold sp_X8_rule at h
  split at h
  · rename_i g y
    exact ⟨Nat.le_of_ble_eq_true rfl, fun X hX => mt_X8_rule hX g y M h⟩
  · exact h.elim

set_option maxRecDepth 20000 in
theorem mt_X8_quarrel {kd : Nat → Nat} {K : zK} {X : zX} (hX : ∀ (n pc : Nat) (ls : zLS) (st : List zV) (M : zM), zrun (tb_X8_quarrel kd K) [(20, [])] n X pc ls st M → X pc ls st M) (g : Int32) (M : zM) (h : (kd 9 = 8) ∧ ∃ s : St, (RpM M s) ∧ ∀ v : Int32, (er_quarrel s g.toInt v.toInt) → ∀ M' : zM, (RpM M' (es_quarrel s g.toInt)) → (fr0 M M') → K (some (zI v)) M') : X 0 [some (zR 9 0), some (zI (g)), none] [] M := by
  obtain ⟨hk, s, hR, hK⟩ := h
  refine vc_X8_quarrel_0 hX hk (fun v1 h1 => ⟨fun q f2 hf2 M2 e2 => ?_, fun q v3 h3 M3 e3 => ?_⟩)
  · rw [h1, zp_n] at q
    have hs := hR.sc (by decide) e2
    have hes : es_quarrel s g.toInt = s := by unfold es_quarrel; rw [if_pos q]
    rw [hes] at hK
    refine up (N := 1000) (Q := fun j => ∀ (M4 : zM) (y : Int32), y.toInt = j → (∀ z : Int, 0 ≤ z → z < j → sk_law s.1.1 g.toInt z ≠ 3) → RpF (M4.1 9 5) s.1.1 → RpM M4 s → fr0 M M4 → X 20 [some (zR 9 0), some (zI g), some (zI y)] [] M4) (fun M4 y hy hno ha hr hf => ?_) (fun j hj ih M4 y hy hno ha hr hf => ?_) 0 (by omega) M2 0 rfl (fun z z0 z1 => absurd z1 (by omega)) (by rw [e2, zmw_at]; exact hR.1.1.congr hf2) hs.1 hs.2
    · refine vc_X8_quarrel_20 hX hk ⟨fun _ => hK _ ?_ M4 hr hf, fun q => by simp only [Int32.lt_iff_toInt_lt, Int32.le_iff_toInt_le, ← Int32.toInt_inj, Int32.toInt_add, Int32.toInt_sub, Int32.toInt_mul, Int32.toInt_neg, Int.bmod, Int32.reduceToInt] at q; omega⟩
      unfold er_quarrel
      rw [if_pos q]
      exact Or.inl ⟨rfl, fun z z0 z1 => hno z z0 (by omega)⟩
    · refine vc_X8_quarrel_20 hX hk ⟨fun q => by simp only [Int32.lt_iff_toInt_lt, Int32.le_iff_toInt_le, ← Int32.toInt_inj, Int32.toInt_add, Int32.toInt_sub, Int32.toInt_mul, Int32.toInt_neg, Int.bmod, Int32.reduceToInt] at q; omega, fun _ => ⟨s.1.1, ha, by omega, fun v1 hv1 f1 hf1 M5 e5 => ?_⟩⟩
      rw [hy] at hv1
      have h5 := hr.s0 (hf1.2.2 16 (by decide) (by decide)) e5
      refine ⟨fun q3 => ?_, fun q3 => hK y ?_ M5 h5.1 (hf.tr h5.2)⟩
      · rw [← Int32.toInt_inj, hv1] at q3
        have q3' : ¬ sk_law s.1.1 g.toInt j = 3 := q3
        refine ih M5 (y + 1) (z_inc hy (by omega)) (fun z z0 z1 => ?_) (by rw [e5, zmw_o (by decide)]; exact ha) h5.1 (hf.tr h5.2)
        by_cases hz : z = j
        · rw [hz]; exact q3'
        · exact hno z z0 (by omega)
      · rw [← Int32.toInt_inj, hv1] at q3
        have q3' : sk_law s.1.1 g.toInt j = 3 := q3
        unfold er_quarrel
        rw [if_pos q, hy]
        exact Or.inr ⟨by omega, by omega, q3', fun z z0 z1 => hno z z0 z1⟩
  · rw [h1, zp_0] at q
    have hes : es_quarrel s g.toInt = sRf s 0 := by unfold es_quarrel; rw [if_neg q]
    rw [hes] at hK
    have := hR.rf e3 (by decide)
    exact hK _ (by unfold er_quarrel; rw [if_neg q, h3]; rfl) M3 this.1 this.2
theorem ms_X8_quarrel : zMS 8 yX8_quarrel cX8_quarrel 3 (some .int) sp_X8_quarrel := by
  intro d hd
  obtain ⟨d', rfl⟩ : ∃ d', d = d' + 8 := ⟨d - 8, by omega⟩
  refine zmethod (tab := tb_X8_quarrel) (cut := [(20, [])]) (by decide) (tk_X8_quarrel d' ms_X8_isThing ms_X8_bad ms_X8_layHand ms_X8_ruleOf) ?_
  intro kd as M K h
  unfold sp_X8_quarrel at h
  split at h
  · rename_i g
    exact ⟨Nat.le_of_ble_eq_true rfl, fun X hX => mt_X8_quarrel hX g M h⟩
  · exact h.elim

