set_option maxRecDepth 20000 in
theorem mt_X7_type {kd : Nat → Nat} {K : zK} {X : zX} (hX : ∀ (n pc : Nat) (ls : zLS) (st : List zV) (M : zM), zrun (tb_X7_type kd K) [] n X pc ls st M → X pc ls st M) (c : Int32) (M : zM) (h : (kd 0 = 1) ∧ (KdX kd) ∧ ∃ s : St, (RpX kd M s) ∧ ∀ v : Int32, (v.toInt = (ev_type s c.toInt).1) → ∀ M' : zM, (RpX kd M' (ev_type s c.toInt).2) → (fr9 M M') → K (some (zI v)) M') : X 0 [some (zR 0 0), some (zI (c))] [] M := by
  obtain ⟨_, hk, s, hR, hK⟩ := h
  obtain ⟨k0, k1, k2, k3, k4, k5, k6, k7, k8, ki⟩ := id hk
  have hB : RpB (M.1 8) s.2.2.1 := hR.2.2.1
  have hs := hB.2.1
  refine vc_X7_type_0 hX k8 k0 (fun v1 h1 => ⟨fun q1 => ⟨fun q2 => ⟨_, hB, ?_, ?_, fun v2 h2 S2 g2 M2 e2 => ?_⟩, fun q2 => ?_⟩, fun q => ?_⟩)
  · simp only [Int32.lt_iff_toInt_lt, Int32.le_iff_toInt_le, ← Int32.toInt_inj, Int32.toInt_add, Int32.toInt_sub, Int32.toInt_mul, Int32.toInt_neg, Int.bmod, Int32.reduceToInt] at q2; omega
  · rw [h1, zp_n] at q1; exact q1
  · rw [h1, zp_n] at q1
    have q1' : 0 ≤ c.toInt ∧ c.toInt ≤ 127 := q1
    have hlt : s.2.2.1.length < 150 := by simp only [Int32.lt_iff_toInt_lt, Int32.le_iff_toInt_le, ← Int32.toInt_inj, Int32.toInt_add, Int32.toInt_sub, Int32.toInt_mul, Int32.toInt_neg, Int.bmod, Int32.reduceToInt] at q2; omega
    have hev : ev_type s c.toInt = ((s.2.2.1.length : Int) + 1, (s.1, s.2.1, s.2.2.1 ++ [c.toInt], s.2.2.2)) := by unfold ev_type; rw [if_pos q1', if_pos hlt]
    have := hR.g (M' := M2) (r := s.1) (b := s.2.2.1 ++ [c.toInt]) (by rw [e2, zbs_ne (by decide)]; exact hR.1.1) (by rw [e2, zbs_ne (by decide)]; exact hR.1.2.1) (by rw [e2, zbs_ne (by decide)]; exact hR.1.2.2) (by rw [e2, zbs_at]; exact g2) (fun n hn => by rw [e2, zbs_ne (by omega)]) (by rw [e2]; rfl)
    exact hK _ (by rw [hev]; exact h2) M2 (by rw [hev]; exact this.1) this.2
  · rw [h1, zp_n] at q1
    have q1' : 0 ≤ c.toInt ∧ c.toInt ≤ 127 := q1
    have hlt : ¬ s.2.2.1.length < 150 := by simp only [Int32.lt_iff_toInt_lt, Int32.le_iff_toInt_le, ← Int32.toInt_inj, Int32.toInt_add, Int32.toInt_sub, Int32.toInt_mul, Int32.toInt_neg, Int.bmod, Int32.reduceToInt] at q2; omega
    exact rfq hR hK 2 (-4) (by decide) (by unfold ev_type; rw [if_pos q1', if_neg hlt])
  · rw [h1, zp_0] at q
    have q1' : ¬ (0 ≤ c.toInt ∧ c.toInt ≤ 127) := q
    exact rfq hR hK 0 (-2) (by decide) (by unfold ev_type; rw [if_neg q1'])
theorem ms_X7_type : zMS 3 yX7_type cX7_type 2 (some .int) sp_X7_type := by
  intro d hd
  obtain ⟨d', rfl⟩ : ∃ d', d = d' + 3 := ⟨d - 3, by omega⟩
  refine zmethod (tab := tb_X7_type) (cut := []) (by decide) (tk_X7_type d' ms_X7_within ms_X7_refuse ms_X5_add) ?_
  intro kd as M K h
  unfold sp_X7_type at h
  split at h
  · rename_i c
    exact ⟨Nat.le_of_ble_eq_true rfl, fun X hX => mt_X7_type hX c M h⟩
  · exact h.elim

set_option maxRecDepth 20000 in
theorem mt_X7_clear {kd : Nat → Nat} {K : zK} {X : zX} (hX : ∀ (n pc : Nat) (ls : zLS) (st : List zV) (M : zM), zrun (tb_X7_clear kd K) [] n X pc ls st M → X pc ls st M)  (M : zM) (h : (kd 0 = 1) ∧ (KdX kd) ∧ ∃ s : St, (RpX kd M s) ∧ ∀ v : Int32, (v.toInt = (ev_clear s).1) → ∀ M' : zM, (RpX kd M' (ev_clear s).2) → (fr9 M M') → K (some (zI v)) M') : X 0 [some (zR 0 0)] [] M := by
  obtain ⟨_, hk, s, hR, hK⟩ := h
  obtain ⟨k0, k1, k2, k3, k4, k5, k6, k7, k8, ki⟩ := id hk
  refine vc_X7_clear_0 hX k8 k0 ⟨_, hR.2.2.1, fun v1 h1 S1 g1 M1 e1 => ?_⟩
  have := hR.g (M' := M1) (r := s.1) (b := []) (by rw [e1, zbs_ne (by decide)]; exact hR.1.1) (by rw [e1, zbs_ne (by decide)]; exact hR.1.2.1) (by rw [e1, zbs_ne (by decide)]; exact hR.1.2.2) (by rw [e1, zbs_at]; exact g1) (fun n hn => by rw [e1, zbs_ne (by omega)]) (by rw [e1]; rfl)
  exact hK _ h1 M1 this.1 this.2
theorem ms_X7_clear : zMS 2 yX7_clear cX7_clear 1 (some .int) sp_X7_clear := by
  intro d hd
  obtain ⟨d', rfl⟩ : ∃ d', d = d' + 2 := ⟨d - 2, by omega⟩
  refine zmethod (tab := tb_X7_clear) (cut := []) (by decide) (tk_X7_clear d' ms_X5_empty) ?_
  intro kd as M K h
  unfold sp_X7_clear at h
  split at h
  · skip
    exact ⟨Nat.le_of_ble_eq_true rfl, fun X hX => mt_X7_clear hX  M h⟩
  · exact h.elim

set_option maxRecDepth 20000 in
theorem mt_X7_read {kd : Nat → Nat} {K : zK} {X : zX} (hX : ∀ (n pc : Nat) (ls : zLS) (st : List zV) (M : zM), zrun (tb_X7_read kd K) [] n X pc ls st M → X pc ls st M)  (M : zM) (h : (kd 0 = 1) ∧ (KdX kd) ∧ ∃ s : St, (RpX kd M s) ∧ ∀ v : Int32, (v.toInt = (ev_read s).1) → ∀ M' : zM, (RpX kd M' (ev_read s).2) → (fr9 M M') → K (some (zI v)) M') : X 0 [some (zR 0 0), none] [] M := by
  obtain ⟨_, hk, s, hR, hK⟩ := h
  obtain ⟨k0, k1, k2, k3, k4, k5, k6, k7, k8, ki⟩ := id hk
  refine vc_X7_read_0 hX k5 k2 k0 k1 k4 k3 k2 k8 ⟨_, hR.2.2.1, fun v1 h1 S1 g1 S2 g2 M1 e1 => ⟨fun q S3 g3 S4 g4 S5 g5 M2 e2 => ⟨by decide, (rdAll s.2.2.1).2.2, ?_, fun S6 g6 M3 e3 => ?_⟩, fun q => ?_⟩⟩
  · have e2 : M2 = zbs (zbs (zbs M1 2 S3) 3 S4) 4 S5 := e2
    rw [e2, zbs_ne (by decide), zbs_ne (by decide), zbs_ne (by decide), e1, zbs_at]
    exact g2
  · have e2 : M2 = zbs (zbs (zbs M1 2 S3) 3 S4) 4 S5 := e2
    rw [← Int32.toInt_inj, h1] at q
    have q' : ¬ (rdAll s.2.2.1).1 = -1 := q
    have hev : ev_read s = ((rdAll s.2.2.1).1, sRo s ((rdAll s.2.2.1).2.2, [], [])) := by unfold ev_read; rw [if_neg q']
    rw [e2, e1] at e3
    have := hR.g (M' := M3) (r := ((rdAll s.2.2.1).2.2, [], [])) (b := s.2.2.1) (by rw [e3, zbs_at]; exact g6) ⟨[], by rw [e3, zbs_ne (by decide), zbs_ne (by decide), zbs_at]; exact g4, okH.nil⟩ (by rw [e3, zbs_ne (by decide), zbs_at]; exact g5) (by rw [e3, zbs_ne (by decide), zbs_ne (by decide), zbs_ne (by decide), zbs_ne (by decide), zbs_ne (by decide), zbs_at]; exact g1.1) (fun n hn => by rw [e3, zbs_ne (by omega), zbs_ne (by omega), zbs_ne (by omega), zbs_ne (by omega), zbs_ne (by omega), zbs_ne (by omega)]) (by rw [e3]; rfl)
    exact hK _ (by rw [hev]; exact h1) M3 (by rw [hev]; exact this.1) this.2
  · rw [← Int32.toInt_inj, h1] at q
    have q' : (rdAll s.2.2.1).1 = -1 := q
    have hev : ev_read s = (-10 - ((rdAll s.2.2.1).2.1.1 : Int), s) := by unfold ev_read; rw [if_pos q']
    have h3 : (M1.1 8 0 3).toInt = ((rdAll s.2.2.1).2.1.1 : Int) := by rw [e1, zbs_ne (by decide), zbs_at]; exact g1.2.2.1
    have hb1 := g1.2.2.2.2.2
    have hb2 := g1.1.1
    have := hR.g (M' := M1) (r := s.1) (b := s.2.2.1) (by rw [e1, zbs_ne (by decide), zbs_ne (by decide)]; exact hR.1.1) (by rw [e1, zbs_ne (by decide), zbs_ne (by decide)]; exact hR.1.2.1) (by rw [e1, zbs_ne (by decide), zbs_ne (by decide)]; exact hR.1.2.2) (by rw [e1, zbs_ne (by decide), zbs_at]; exact g1.1) (fun n hn => by rw [e1, zbs_ne (by omega), zbs_ne (by omega)]) (by rw [e1]; rfl)
    exact hK _ (by rw [hev]; simp only [Int32.lt_iff_toInt_lt, Int32.le_iff_toInt_le, ← Int32.toInt_inj, Int32.toInt_add, Int32.toInt_sub, Int32.toInt_mul, Int32.toInt_neg, Int.bmod, Int32.reduceToInt]; omega) M1 (by rw [hev]; exact this.1) this.2
theorem ms_X7_read : zMS 8 yX7_read cX7_read 2 (some .int) sp_X7_read := by
  intro d hd
  obtain ⟨d', rfl⟩ : ∃ d', d = d' + 8 := ⟨d - 8, by omega⟩
  refine zmethod (tab := tb_X7_read) (cut := []) (by decide) (tk_X7_read d' ms_X1_rollInto ms_X2_wipe ms_X3_take) ?_
  intro kd as M K h
  unfold sp_X7_read at h
  split at h
  · skip
    exact ⟨Nat.le_of_ble_eq_true rfl, fun X hX => mt_X7_read hX  M h⟩
  · exact h.elim

set_option maxRecDepth 20000 in
theorem mt_X7_layers {kd : Nat → Nat} {K : zK} {X : zX} (hX : ∀ (n pc : Nat) (ls : zLS) (st : List zV) (M : zM), zrun (tb_X7_layers kd K) [] n X pc ls st M → X pc ls st M) (c : Int32) (M : zM) (h : (kd 0 = 1) ∧ (KdX kd) ∧ ∃ s : St, (RpX kd M s) ∧ ∀ v : Int32, (v.toInt = (ev_layers s c.toInt).1) → ∀ M' : zM, (RpX kd M' (ev_layers s c.toInt).2) → (fr9 M M') → K (some (zI v)) M') : X 0 [some (zR 0 0), some (zI (c))] [] M := by
  obtain ⟨_, hk, s, hR, hK⟩ := h
  obtain ⟨k0, k1, k2, k3, k4, k5, k6, k7, k8, ki⟩ := id hk
  refine vc_X7_layers_0 hX k0 k2 k1 (fun v1 h1 => ⟨fun q => ?_, fun q => ?_⟩)
  · rw [h1, zp_0] at q
    exact rfq hR hK 0 (-2) (by decide) (by unfold ev_layers; rw [if_neg q])
  · rw [h1, zp_n] at q
    exact ⟨zin_of (n := 6) (by rw [k2]; rfl) (by omega) (by omega), okK hR hK (RpS.h hR.1.1 q.1 q.2) (by unfold ev_layers; rw [if_pos q])⟩
theorem ms_X7_layers : zMS 3 yX7_layers cX7_layers 2 (some .int) sp_X7_layers := by
  intro d hd
  obtain ⟨d', rfl⟩ : ∃ d', d = d' + 3 := ⟨d - 3, by omega⟩
  refine zmethod (tab := tb_X7_layers) (cut := []) (by decide) (tk_X7_layers d' ms_X7_isCell ms_X7_refuse) ?_
  intro kd as M K h
  unfold sp_X7_layers at h
  split at h
  · rename_i c
    exact ⟨Nat.le_of_ble_eq_true rfl, fun X hX => mt_X7_layers hX c M h⟩
  · exact h.elim

set_option maxRecDepth 20000 in
theorem mt_X7_of {kd : Nat → Nat} {K : zK} {X : zX} (hX : ∀ (n pc : Nat) (ls : zLS) (st : List zV) (M : zM), zrun (tb_X7_of kd K) [] n X pc ls st M → X pc ls st M) (c : Int32) (i : Int32) (w : Int32) (M : zM) (h : (kd 0 = 1) ∧ (KdX kd) ∧ ∃ s : St, (RpX kd M s) ∧ ∀ v : Int32, (v.toInt = (ev_of s c.toInt i.toInt w.toInt).1) → ∀ M' : zM, (RpX kd M' (ev_of s c.toInt i.toInt w.toInt).2) → (fr9 M M') → K (some (zI v)) M') : X 0 [some (zR 0 0), some (zI (c)), some (zI (i)), some (zI (w)), none] [] M := by
  obtain ⟨_, hk, s, hR, hK⟩ := h
  obtain ⟨k0, k1, k2, k3, k4, k5, k6, k7, k8, ki⟩ := id hk
  refine vc_X7_of_0 hX k0 k2 k1 ⟨s.1.1, hR.1.1, fun v1 h1 => ⟨fun q => ?_, fun q v3 h3 => ⟨fun q3 => ?_, fun q3 => ?_⟩⟩⟩
  · rw [← Int32.toInt_inj, h1] at q
    have q' : (if (sk_at s.1.1 c.toInt i.toInt).isSome = true then 4 * c.toInt + i.toInt else -1) = -1 := q
    have hn : sk_at s.1.1 c.toInt i.toInt = none := by
      by_cases hc : (sk_at s.1.1 c.toInt i.toInt).isSome = true
      · rw [if_pos hc] at q'
        have := sk_at_iff.mp hc
        omega
      · simpa using hc
    exact rfc hR hK 0 (-10) (by decide) (by unfold ev_of; rw [hn])
  · rw [h3, zp_n] at q3
    have q3' : 0 ≤ w.toInt ∧ w.toInt ≤ 4 := q3
    by_cases hc : (sk_at s.1.1 c.toInt i.toInt).isSome = true
    · rw [if_pos hc] at h1
      obtain ⟨l, hl⟩ := Option.isSome_iff_exists.mp hc
      obtain ⟨a0, a1, a2, a3, a4⟩ := sk_at_some hl
      refine ⟨s.1.1, hR.1.1, c.toInt.toNat, i.toInt.toNat, l, by omega, a4, by omega, fun v4 h4 => okK hR hK h4 (by unfold ev_of; rw [hl]; simp only; rw [if_pos q3'])⟩
    · rw [if_neg hc] at h1
      exact absurd (Int32.toInt_inj.mp (by rw [h1]; rfl)) q
  · rw [h3, zp_0] at q3
    have q3' : ¬ (0 ≤ w.toInt ∧ w.toInt ≤ 4) := q3
    refine rfc hR hK 0 (-10) (by decide) ?_
    unfold ev_of
    split
    · rw [if_neg q3']
    · rfl
theorem ms_X7_of : zMS 3 yX7_of cX7_of 5 (some .int) sp_X7_of := by
  intro d hd
  obtain ⟨d', rfl⟩ : ∃ d', d = d' + 3 := ⟨d - 3, by omega⟩
  refine zmethod (tab := tb_X7_of) (cut := []) (by decide) (tk_X7_of d' ms_X3_slot ms_X7_within ms_X7_refuse ms_X3_field) ?_
  intro kd as M K h
  unfold sp_X7_of at h
  split at h
  · rename_i c i w
    exact ⟨Nat.le_of_ble_eq_true rfl, fun X hX => mt_X7_of hX c i w M h⟩
  · exact h.elim

set_option maxRecDepth 20000 in
theorem mt_X7_binds {kd : Nat → Nat} {K : zK} {X : zX} (hX : ∀ (n pc : Nat) (ls : zLS) (st : List zV) (M : zM), zrun (tb_X7_binds kd K) [] n X pc ls st M → X pc ls st M) (c : Int32) (i : Int32) (y : Int32) (M : zM) (h : (kd 0 = 1) ∧ (KdX kd) ∧ ∃ s : St, (RpX kd M s) ∧ ∀ v : Int32, (v.toInt = (ev_binds s c.toInt i.toInt y.toInt).1) → ∀ M' : zM, (RpX kd M' (ev_binds s c.toInt i.toInt y.toInt).2) → (fr9 M M') → K (some (zI v)) M') : X 0 [some (zR 0 0), some (zI (c)), some (zI (i)), some (zI (y))] [] M := by
  obtain ⟨_, hk, s, hR, hK⟩ := h
  obtain ⟨k0, k1, k2, k3, k4, k5, k6, k7, k8, ki⟩ := id hk
  refine vc_X7_binds_0 hX k0 k2 k1 ⟨s.1.1, hR.1.1, fun v1 h1 => ⟨fun q => ?_, fun q1 v3 h3 => ⟨fun q3 => ?_, fun q3 => ?_⟩⟩⟩
  · rw [h1, zp_0] at q
    exact rfq hR hK 0 (-2) (by decide) (by unfold ev_binds; rw [if_neg (fun x => q x.1)])
  · rw [h1, zp_n] at q1
    rw [h3, zp_n] at q3
    refine ⟨s.1.1, hR.1.1, by omega, fun v4 h4 => ⟨fun q4 => ?_, fun q4 => ?_⟩⟩
    · rw [h4, zp_0] at q4
      exact okK hR hK (z := 0) rfl (by unfold ev_binds; rw [if_pos ⟨q1, q3⟩]; simp [b2i, q4])
    · rw [h4, zp_n] at q4
      exact okK hR hK (z := 1) rfl (by unfold ev_binds; rw [if_pos ⟨q1, q3⟩]; simp [b2i, q4])
  · rw [h3, zp_0] at q3
    exact rfq hR hK 0 (-2) (by decide) (by unfold ev_binds; rw [if_neg (fun x => q3 x.2)])
theorem ms_X7_binds : zMS 5 yX7_binds cX7_binds 4 (some .int) sp_X7_binds := by
  intro d hd
  obtain ⟨d', rfl⟩ : ∃ d', d = d' + 5 := ⟨d - 5, by omega⟩
  refine zmethod (tab := tb_X7_binds) (cut := []) (by decide) (tk_X7_binds d' ms_X3_has ms_X7_isYear ms_X7_refuse ms_X3_bound) ?_
  intro kd as M K h
  unfold sp_X7_binds at h
  split at h
  · rename_i c i y
    exact ⟨Nat.le_of_ble_eq_true rfl, fun X hX => mt_X7_binds hX c i y M h⟩
  · exact h.elim

set_option maxRecDepth 20000 in
theorem mt_X7_rule {kd : Nat → Nat} {K : zK} {X : zX} (hX : ∀ (n pc : Nat) (ls : zLS) (st : List zV) (M : zM), zrun (tb_X7_rule kd K) [] n X pc ls st M → X pc ls st M) (g : Int32) (y : Int32) (M : zM) (h : (kd 0 = 1) ∧ (KdX kd) ∧ ∃ s : St, (RpX kd M s) ∧ ∀ v : Int32, (v.toInt = (ev_rule s g.toInt y.toInt).1) → ∀ M' : zM, (RpX kd M' (ev_rule s g.toInt y.toInt).2) → (fr9 M M') → K (some (zI v)) M') : X 0 [some (zR 0 0), some (zI (g)), some (zI (y))] [] M := by
  obtain ⟨_, hk, s, hR, hK⟩ := h
  obtain ⟨k0, k1, k2, k3, k4, k5, k6, k7, k8, ki⟩ := id hk
  refine vc_X7_rule_0 hX k0 k2 k1 (fun v1 h1 => ⟨fun q => ?_, fun q1 v3 h3 => ⟨fun q => ?_, fun q3 => ⟨s.1.1, hR.1.1, ?_, fun v5 h5 => ?_⟩⟩⟩)
  · rw [h1, zp_0] at q
    exact rfq hR hK 0 (-2) (by decide) (by unfold ev_rule; rw [if_neg (fun x => q x.1)])
  · rw [h3, zp_0] at q
    exact rfq hR hK 0 (-2) (by decide) (by unfold ev_rule; rw [if_neg (fun x => q x.2)])
  · rw [h3, zp_n] at q3
    omega
  · rw [h1, zp_n] at q1
    rw [h3, zp_n] at q3
    exact okK hR hK h5 (by unfold ev_rule; rw [if_pos ⟨q1, q3⟩])
theorem ms_X7_rule : zMS 6 yX7_rule cX7_rule 3 (some .int) sp_X7_rule := by
  intro d hd
  obtain ⟨d', rfl⟩ : ∃ d', d = d' + 6 := ⟨d - 6, by omega⟩
  refine zmethod (tab := tb_X7_rule) (cut := []) (by decide) (tk_X7_rule d' ms_X7_isThing ms_X7_isYear ms_X3_law ms_X7_refuse) ?_
  intro kd as M K h
  unfold sp_X7_rule at h
  split at h
  · rename_i g y
    exact ⟨Nat.le_of_ble_eq_true rfl, fun X hX => mt_X7_rule hX g y M h⟩
  · exact h.elim

set_option maxRecDepth 20000 in
theorem mt_X7_tear {kd : Nat → Nat} {K : zK} {X : zX} (hX : ∀ (n pc : Nat) (ls : zLS) (st : List zV) (M : zM), zrun (tb_X7_tear kd K) [] n X pc ls st M → X pc ls st M) (y : Int32) (c : Int32) (M : zM) (h : (kd 0 = 1) ∧ (KdX kd) ∧ ∃ s : St, (RpX kd M s) ∧ ∀ v : Int32, (v.toInt = (ev_tear s y.toInt c.toInt).1) → ∀ M' : zM, (RpX kd M' (ev_tear s y.toInt c.toInt).2) → (fr9 M M') → K (some (zI v)) M') : X 0 [some (zR 0 0), some (zI (y)), some (zI (c))] [] M := by
  obtain ⟨_, hk, s, hR, hK⟩ := h
  obtain ⟨k0, k1, k2, k3, k4, k5, k6, k7, k8, ki⟩ := id hk
  have i1 : ∀ x : Int32, x = -1 ↔ x.toInt = -1 := fun x => by rw [← Int32.toInt_inj]; exact Iff.rfl
  refine vc_X7_tear_0 hX k0 k2 k1 (fun v1 h1 => ⟨fun q => ?_, fun q1 => ⟨fun q2 => ⟨fun q3 => absurd q2 q3, fun _ => ⟨s.1.1, hR.1.1, ?_, fun v4 h4 => ?_⟩⟩, fun q2 v5 h5 => ⟨fun q5 => ⟨fun _ => ⟨s.1.1, hR.1.1, ?_, ?_, fun v6 h6 => ?_⟩, fun q3 => absurd q3 q2⟩, fun q5 => ?_⟩⟩⟩)
  · rw [h1, zp_0] at q
    exact rfc hR hK 0 (-10) (by decide) (by unfold ev_tear; rw [if_neg (fun x => q x.1)])
  · rw [h1, zp_n] at q1; omega
  · rw [h1, zp_n] at q1
    rw [i1] at q2
    exact okK hR hK h4 (by unfold ev_tear; rw [if_pos ⟨q1, Or.inl q2⟩, if_pos q2])
  · rw [h5, zp_n] at q5; exact q5
  · rw [h1, zp_n] at q1; omega
  · rw [h1, zp_n] at q1
    rw [h5, zp_n] at q5
    rw [i1] at q2
    exact okK hR hK h6 (by unfold ev_tear; rw [if_pos ⟨q1, Or.inr q5⟩, if_neg q2])
  · rw [h5, zp_0] at q5
    rw [i1] at q2
    exact rfc hR hK 0 (-10) (by decide) (by unfold ev_tear; rw [if_neg (fun x => x.2.elim q2 q5)])
theorem ms_X7_tear : zMS 7 yX7_tear cX7_tear 3 (some .int) sp_X7_tear := by
  intro d hd
  obtain ⟨d', rfl⟩ : ∃ d', d = d' + 7 := ⟨d - 7, by omega⟩
  refine zmethod (tab := tb_X7_tear) (cut := []) (by decide) (tk_X7_tear d' ms_X7_isYear ms_X7_isCell ms_X7_refuse ms_X3_tornInAll ms_X3_tornOf) ?_
  intro kd as M K h
  unfold sp_X7_tear at h
  split at h
  · rename_i y c
    exact ⟨Nat.le_of_ble_eq_true rfl, fun X hX => mt_X7_tear hX y c M h⟩
  · exact h.elim

set_option maxRecDepth 20000 in
theorem mt_X7_hangs {kd : Nat → Nat} {K : zK} {X : zX} (hX : ∀ (n pc : Nat) (ls : zLS) (st : List zV) (M : zM), zrun (tb_X7_hangs kd K) [] n X pc ls st M → X pc ls st M) (c : Int32) (i : Int32) (y : Int32) (M : zM) (h : (kd 0 = 1) ∧ (KdX kd) ∧ ∃ s : St, (RpX kd M s) ∧ ∀ v : Int32, (v.toInt = (ev_hangs s c.toInt i.toInt y.toInt).1) → ∀ M' : zM, (RpX kd M' (ev_hangs s c.toInt i.toInt y.toInt).2) → (fr9 M M') → K (some (zI v)) M') : X 0 [some (zR 0 0), some (zI (c)), some (zI (i)), some (zI (y))] [] M := by
  obtain ⟨_, hk, s, hR, hK⟩ := h
  obtain ⟨k0, k1, k2, k3, k4, k5, k6, k7, k8, ki⟩ := id hk
  refine vc_X7_hangs_0 hX k0 k2 k1 ⟨s.1.1, hR.1.1, fun v1 h1 => ⟨fun q => ?_, fun q1 v3 h3 => ⟨fun q3 => ⟨s.1.1, hR.1.1, ?_, fun v4 h4 => ?_⟩, fun q3 => ?_⟩⟩⟩
  · rw [h1, zp_0] at q
    exact rfq hR hK 0 (-2) (by decide) (by unfold ev_hangs; rw [if_neg (fun x => q x.1)])
  · rw [h3, zp_n] at q3; omega
  · rw [h1, zp_n] at q1
    rw [h3, zp_n] at q3
    exact okK hR hK h4 (by unfold ev_hangs; rw [if_pos ⟨q1, q3⟩])
  · rw [h3, zp_0] at q3
    exact rfq hR hK 0 (-2) (by decide) (by unfold ev_hangs; rw [if_neg (fun x => q3 x.2)])
theorem ms_X7_hangs : zMS 6 yX7_hangs cX7_hangs 4 (some .int) sp_X7_hangs := by
  intro d hd
  obtain ⟨d', rfl⟩ : ∃ d', d = d' + 6 := ⟨d - 6, by omega⟩
  refine zmethod (tab := tb_X7_hangs) (cut := []) (by decide) (tk_X7_hangs d' ms_X3_has ms_X7_isYear ms_X7_refuse ms_X3_hangingOn) ?_
  intro kd as M K h
  unfold sp_X7_hangs at h
  split at h
  · rename_i c i y
    exact ⟨Nat.le_of_ble_eq_true rfl, fun X hX => mt_X7_hangs hX c i y M h⟩
  · exact h.elim

set_option maxRecDepth 20000 in
theorem mt_X7_seen {kd : Nat → Nat} {K : zK} {X : zX} (hX : ∀ (n pc : Nat) (ls : zLS) (st : List zV) (M : zM), zrun (tb_X7_seen kd K) [] n X pc ls st M → X pc ls st M) (c : Int32) (i : Int32) (y : Int32) (e : Int32) (M : zM) (h : (kd 0 = 1) ∧ (KdX kd) ∧ ∃ s : St, (RpX kd M s) ∧ ∀ v : Int32, (v.toInt = (ev_seen s c.toInt i.toInt y.toInt e.toInt).1) → ∀ M' : zM, (RpX kd M' (ev_seen s c.toInt i.toInt y.toInt e.toInt).2) → (fr9 M M') → K (some (zI v)) M') : X 0 [some (zR 0 0), some (zI (c)), some (zI (i)), some (zI (y)), some (zI (e))] [] M := by
  obtain ⟨_, hk, s, hR, hK⟩ := h
  obtain ⟨k0, k1, k2, k3, k4, k5, k6, k7, k8, ki⟩ := id hk
  have hL : RpL (M.1 4) s.1.2.2 := hR.1.2.2
  have hs := hL.2.1
  refine vc_X7_seen_0 hX k0 k4 k1 k2 ⟨s.1.1, hR.1.1, fun v1 h1 => ⟨fun q => ?_, fun q1 v3 h3 => ⟨fun q => ?_, fun q3 v5 h5 => ⟨fun q5 => ⟨fun q6 => ⟨_, hL, ?_, ?_, fun v6 h6 S6 g6 M6 e6 => ?_⟩, fun q6 => ?_⟩, fun q => ?_⟩⟩⟩⟩
  · rw [h1, zp_0] at q
    exact rfq hR hK 0 (-2) (by decide) (by unfold ev_seen; rw [if_neg (fun x => q x.1)])
  · rw [h3, zp_0] at q
    exact rfq hR hK 0 (-2) (by decide) (by unfold ev_seen; rw [if_neg (fun x => q x.2.1)])
  · simp only [Int32.lt_iff_toInt_lt, Int32.le_iff_toInt_le, ← Int32.toInt_inj, Int32.toInt_add, Int32.toInt_sub, Int32.toInt_mul, Int32.toInt_neg, Int.bmod, Int32.reduceToInt] at q6; omega
  · rw [h3, zp_n] at q3
    rw [h5, zp_n] at q5
    have q5' : 0 ≤ e.toInt ∧ e.toInt ≤ 1 := q5
    exact ⟨q3, by show e.toInt = 0 ∨ e.toInt = 1; omega⟩
  · rw [h1, zp_n] at q1
    rw [h3, zp_n] at q3
    rw [h5, zp_n] at q5
    have hlt : s.1.2.2.length < 6 := by simp only [Int32.lt_iff_toInt_lt, Int32.le_iff_toInt_le, ← Int32.toInt_inj, Int32.toInt_add, Int32.toInt_sub, Int32.toInt_mul, Int32.toInt_neg, Int.bmod, Int32.reduceToInt] at q6; omega
    have hev : ev_seen s c.toInt i.toInt y.toInt e.toInt = ((s.1.2.2.length : Int) + 1, sRo s (s.1.1, s.1.2.1, s.1.2.2 ++ [(c.toInt, i.toInt, y.toInt, e.toInt)])) := by unfold ev_seen; rw [if_pos ⟨q1, q3, q5⟩, if_pos hlt]
    have := hR.g (M' := M6) (r := (s.1.1, s.1.2.1, s.1.2.2 ++ [(c.toInt, i.toInt, y.toInt, e.toInt)])) (b := s.2.2.1) (by rw [e6, zbs_ne (by decide)]; exact hR.1.1) (by rw [e6, zbs_ne (by decide)]; exact hR.1.2.1) (by rw [e6, zbs_at]; exact g6) (by rw [e6, zbs_ne (by decide)]; exact hR.2.2.1) (fun n hn => by rw [e6, zbs_ne (by omega)]) (by rw [e6]; rfl)
    exact hK _ (by rw [hev]; exact h6) M6 (by rw [hev]; exact this.1) this.2
  · rw [h1, zp_n] at q1
    rw [h3, zp_n] at q3
    rw [h5, zp_n] at q5
    have hlt : ¬ s.1.2.2.length < 6 := by simp only [Int32.lt_iff_toInt_lt, Int32.le_iff_toInt_le, ← Int32.toInt_inj, Int32.toInt_add, Int32.toInt_sub, Int32.toInt_mul, Int32.toInt_neg, Int.bmod, Int32.reduceToInt] at q6; omega
    exact rfq hR hK 2 (-4) (by decide) (by unfold ev_seen; rw [if_pos ⟨q1, q3, q5⟩, if_neg hlt])
  · rw [h5, zp_0] at q
    exact rfq hR hK 0 (-2) (by decide) (by unfold ev_seen; rw [if_neg (fun x => q x.2.2)])
theorem ms_X7_seen : zMS 3 yX7_seen cX7_seen 5 (some .int) sp_X7_seen := by
  intro d hd
  obtain ⟨d', rfl⟩ : ∃ d', d = d' + 3 := ⟨d - 3, by omega⟩
  refine zmethod (tab := tb_X7_seen) (cut := []) (by decide) (tk_X7_seen d' ms_X3_has ms_X7_isYear ms_X7_within ms_X7_refuse ms_X0_add) ?_
  intro kd as M K h
  unfold sp_X7_seen at h
  split at h
  · rename_i c i y e
    exact ⟨Nat.le_of_ble_eq_true rfl, fun X hX => mt_X7_seen hX c i y e M h⟩
  · exact h.elim

set_option maxRecDepth 20000 in
theorem mt_X7_forget {kd : Nat → Nat} {K : zK} {X : zX} (hX : ∀ (n pc : Nat) (ls : zLS) (st : List zV) (M : zM), zrun (tb_X7_forget kd K) [] n X pc ls st M → X pc ls st M)  (M : zM) (h : (kd 0 = 1) ∧ (KdX kd) ∧ ∃ s : St, (RpX kd M s) ∧ ∀ v : Int32, (v.toInt = (ev_forget s).1) → ∀ M' : zM, (RpX kd M' (ev_forget s).2) → (fr9 M M') → K (some (zI v)) M') : X 0 [some (zR 0 0)] [] M := by
  obtain ⟨_, hk, s, hR, hK⟩ := h
  obtain ⟨k0, k1, k2, k3, k4, k5, k6, k7, k8, ki⟩ := id hk
  refine vc_X7_forget_0 hX k4 k1 k0 ⟨_, hR.1.2.2, fun v1 h1 S1 g1 M1 e1 => ?_⟩
  have := hR.g (M' := M1) (r := (s.1.1, s.1.2.1, [])) (b := s.2.2.1) (by rw [e1, zbs_ne (by decide)]; exact hR.1.1) (by rw [e1, zbs_ne (by decide)]; exact hR.1.2.1) (by rw [e1, zbs_at]; exact g1) (by rw [e1, zbs_ne (by decide)]; exact hR.2.2.1) (fun n hn => by rw [e1, zbs_ne (by omega)]) (by rw [e1]; rfl)
  exact hK _ h1 M1 this.1 this.2
theorem ms_X7_forget : zMS 2 yX7_forget cX7_forget 1 (some .int) sp_X7_forget := by
  intro d hd
  obtain ⟨d', rfl⟩ : ∃ d', d = d' + 2 := ⟨d - 2, by omega⟩
  refine zmethod (tab := tb_X7_forget) (cut := []) (by decide) (tk_X7_forget d' ms_X0_empty) ?_
  intro kd as M K h
  unfold sp_X7_forget at h
  split at h
  · skip
    exact ⟨Nat.le_of_ble_eq_true rfl, fun X hX => mt_X7_forget hX  M h⟩
  · exact h.elim

set_option maxRecDepth 20000 in
theorem mt_X7_is {kd : Nat → Nat} {K : zK} {X : zX} (hX : ∀ (n pc : Nat) (ls : zLS) (st : List zV) (M : zM), zrun (tb_X7_is kd K) [] n X pc ls st M → X pc ls st M) (c : Int32) (i : Int32) (M : zM) (h : (kd 0 = 1) ∧ (KdX kd) ∧ ∃ s : St, (RpX kd M s) ∧ ∀ v : Int32, (v.toInt = (ev_is s c.toInt i.toInt).1) → ∀ M' : zM, (RpX kd M' (ev_is s c.toInt i.toInt).2) → (fr9 M M') → K (some (zI v)) M') : X 0 [some (zR 0 0), some (zI (c)), some (zI (i))] [] M := by
  obtain ⟨_, hk, s, hR, hK⟩ := h
  obtain ⟨k0, k1, k2, k3, k4, k5, k6, k7, k8, ki⟩ := id hk
  refine vc_X7_is_0 hX k0 k2 k4 k1 ⟨s.1.1, hR.1.1, fun v1 h1 => ⟨fun q => ?_, fun q => ?_⟩⟩
  · rw [h1, zp_0] at q
    have hn : sk_at s.1.1 c.toInt i.toInt = none := by simpa using q
    exact rfq hR hK 0 (-2) (by decide) (by unfold ev_is; rw [hn])
  · rw [h1, zp_n] at q
    obtain ⟨l, hl⟩ := Option.isSome_iff_exists.mp q
    exact ⟨_, hR.1.2.2, _, hR.1.1, l, hl, fun v3 h3 => okK hR hK h3 (by unfold ev_is; rw [hl])⟩
theorem ms_X7_is : zMS 6 yX7_is cX7_is 3 (some .int) sp_X7_is := by
  intro d hd
  obtain ⟨d', rfl⟩ : ∃ d', d = d' + 6 := ⟨d - 6, by omega⟩
  refine zmethod (tab := tb_X7_is) (cut := []) (by decide) (tk_X7_is d' ms_X3_has ms_X0_fitting ms_X7_refuse) ?_
  intro kd as M K h
  unfold sp_X7_is at h
  split at h
  · rename_i c i
    exact ⟨Nat.le_of_ble_eq_true rfl, fun X hX => mt_X7_is hX c i M h⟩
  · exact h.elim

set_option maxRecDepth 20000 in
theorem mt_X7_from {kd : Nat → Nat} {K : zK} {X : zX} (hX : ∀ (n pc : Nat) (ls : zLS) (st : List zV) (M : zM), zrun (tb_X7_from kd K) [] n X pc ls st M → X pc ls st M) (j : Int32) (M : zM) (h : (kd 0 = 1) ∧ (KdX kd) ∧ ∃ s : St, (RpX kd M s) ∧ ∀ v : Int32, (v.toInt = (ev_from s j.toInt).1) → ∀ M' : zM, (RpX kd M' (ev_from s j.toInt).2) → (fr9 M M') → K (some (zI v)) M') : X 0 [some (zR 0 0), some (zI (j)), none] [] M := by
  obtain ⟨_, hk, s, hR, hK⟩ := h
  obtain ⟨k0, k1, k2, k3, k4, k5, k6, k7, k8, ki⟩ := id hk
  refine vc_X7_from_0 hX k4 k3 k2 k1 k0 (fun v1 h1 => ⟨fun q1 => ?_, fun q => ?_⟩)
  · rw [h1, zp_n] at q1
    obtain ⟨n, hn⟩ : ∃ n : Nat, j.toInt = n := ⟨j.toInt.toNat, by omega⟩
    have hnc : j.toNatClampNeg = n := by rw [z_cl]; omega
    have hn2 : n < 2 := by omega
    have hnt : j.toInt.toNat = n := by omega
    have hI := hR.2.1 n hn2
    refine ⟨vp_in_iff.mpr ⟨by omega, by omega⟩, ?_, ?_⟩
    · rw [hnc]
      intro hkd
      obtain ⟨r, hr⟩ := Option.isSome_iff_exists.mp (hI.1.mpr hkd)
      obtain ⟨ho1, ⟨L, hL, hH⟩, ho3⟩ := hI.2 r hr
      obtain ⟨x1, x2, x3⟩ := ki n hn2 hkd
      refine ⟨hkd, by rw [show 10 + 4 * n + 1 = 11 + 4 * n by omega]; exact x1, by rw [show 10 + 4 * n + 2 = 12 + 4 * n by omega]; exact x2, by rw [show 10 + 4 * n + 3 = 13 + 4 * n by omega]; exact x3, by omega, r.1, ho1, L, hL, r.2.2, ho3, fun S1 g1 S2 g2 S3 g3 M2 e2 => ?_⟩
      have e2 : M2 = zbs (zbs (zbs M 2 S1) 3 S2) 4 S3 := e2
      have hev : ev_from s j.toInt = (1, sRo s r) := by unfold ev_from; rw [if_pos q1, hnt, hr]
      have := hR.g (M' := M2) (r := r) (b := s.2.2.1) (by rw [e2, zbs_ne (by decide), zbs_ne (by decide), zbs_at]; exact g1) ⟨L, by rw [e2, zbs_ne (by decide), zbs_at]; exact g2, hH⟩ (by rw [e2, zbs_at]; exact g3) (by rw [e2, zbs_ne (by decide), zbs_ne (by decide), zbs_ne (by decide)]; exact hR.2.2.1) (fun n hn => by rw [e2, zbs_ne (by omega), zbs_ne (by omega), zbs_ne (by omega)]) (by rw [e2]; rfl)
      exact hK _ (by rw [hev]; rfl) M2 (by rw [hev]; exact this.1) this.2
    · rw [hnc]
      intro hkd
      have hr : s.2.1 n = none := by
        cases hc : s.2.1 n with
        | none => rfl
        | some r => exact absurd (hI.1.mp (by rw [hc]; rfl)) hkd
      exact rfq hR hK 1 (-3) (by decide) (by unfold ev_from; rw [if_pos q1, hnt, hr])
  · rw [h1, zp_0] at q
    exact rfq hR hK 0 (-2) (by decide) (by unfold ev_from; rw [if_neg q])
theorem ms_X7_from : zMS 3 yX7_from cX7_from 3 (some .int) sp_X7_from := by
  intro d hd
  obtain ⟨d', rfl⟩ : ∃ d', d = d' + 3 := ⟨d - 3, by omega⟩
  refine zmethod (tab := tb_X7_from) (cut := []) (by decide) (tk_X7_from d' ms_X7_isImage ms_X7_refuse ms_X2_take) ?_
  intro kd as M K h
  unfold sp_X7_from at h
  split at h
  · rename_i j
    exact ⟨Nat.le_of_ble_eq_true rfl, fun X hX => mt_X7_from hX j M h⟩
  · exact h.elim

set_option maxRecDepth 20000 in
theorem mt_X7_status {kd : Nat → Nat} {K : zK} {X : zX} (hX : ∀ (n pc : Nat) (ls : zLS) (st : List zV) (M : zM), zrun (tb_X7_status kd K) [] n X pc ls st M → X pc ls st M) (w : Int32) (M : zM) (h : (kd 0 = 1) ∧ (KdX kd) ∧ ∃ s : St, (RpX kd M s) ∧ ∀ v : Int32, (v.toInt = (ev_status s w.toInt).1) → ∀ M' : zM, (RpX kd M' (ev_status s w.toInt).2) → (fr9 M M') → K (some (zI v)) M') : X 0 [some (zR 0 0), some (zI (w))] [] M := by
  obtain ⟨_, hk, s, hR, hK⟩ := h
  obtain ⟨k0, k1, k2, k3, k4, k5, k6, k7, k8, ki⟩ := id hk
  refine vc_X7_status_0 hX k0 (fun v1 h1 => ⟨fun q => ?_, fun q => ?_⟩)
  · rw [h1, zp_n] at q
    have q' : 0 ≤ w.toInt ∧ w.toInt ≤ 2 := q
    refine ⟨zin_of (n := 3) (by rw [k0]; rfl) (by omega) (by omega), okK hR hK (z := (s.2.2.2.2 w.toInt.toNat).toInt) ?_ (by unfold ev_status; rw [if_pos q'])⟩
    rw [z_cl, hR.2.2.2.2 _ (by omega)]
  · rw [h1, zp_0] at q
    have q' : ¬ (0 ≤ w.toInt ∧ w.toInt ≤ 2) := q
    exact rfc hR hK 0 (-1) (by decide) (by unfold ev_status; rw [if_neg q'])
theorem ms_X7_status : zMS 3 yX7_status cX7_status 2 (some .int) sp_X7_status := by
  intro d hd
  obtain ⟨d', rfl⟩ : ∃ d', d = d' + 3 := ⟨d - 3, by omega⟩
  refine zmethod (tab := tb_X7_status) (cut := []) (by decide) (tk_X7_status d' ms_X7_within ms_X7_refuse) ?_
  intro kd as M K h
  unfold sp_X7_status at h
  split at h
  · rename_i w
    exact ⟨Nat.le_of_ble_eq_true rfl, fun X hX => mt_X7_status hX w M h⟩
  · exact h.elim

set_option maxRecDepth 20000 in
theorem mt_X7_count {kd : Nat → Nat} {K : zK} {X : zX} (hX : ∀ (n pc : Nat) (ls : zLS) (st : List zV) (M : zM), zrun (tb_X7_count kd K) [] n X pc ls st M → X pc ls st M) (w : Int32) (M : zM) (h : (kd 0 = 1) ∧ (KdX kd) ∧ ∃ s : St, (RpX kd M s) ∧ ∀ v : Int32, (v.toInt = (ev_count s w.toInt).1) → ∀ M' : zM, (RpX kd M' (ev_count s w.toInt).2) → (fr9 M M') → K (some (zI v)) M') : X 0 [some (zR 0 0), some (zI (w))] [] M := by
  obtain ⟨_, hk, s, hR, hK⟩ := h
  obtain ⟨k0, k1, k2, k3, k4, k5, k6, k7, k8, ki⟩ := id hk
  have ha : RpS (M.1 2) s.1.1 := hR.1.1
  have hy : (M.1 2 0 6).toInt = s.1.1.2 := ha.2.2
  have hyb := ha.1.1
  obtain ⟨L, hL, hH⟩ := hR.1.2.1
  have hL' : (M.1 3 0 1).toInt = (s.1.2.1.length : Int) := by rw [← hH.1]; exact hL.2.1
  have iw : ∀ n : Int32, ∀ z : Int, n.toInt = z → (w = n ↔ w.toInt = z) := fun n z e => by rw [← Int32.toInt_inj, e]
  rw [← hy] at hyb
  refine vc_X7_count_0 hX k0 k8 k3 k1 k4 k2 ⟨fun q0 => ⟨_, ha, fun v h => okK hR hK h ?_⟩, fun q0 => ⟨fun q1 => okK hR hK hy ?_, fun q1 => ⟨fun q2 => ⟨_, ha, by omega, fun v h => okK hR hK h ?_⟩, fun q2 => ⟨fun q3 => ⟨_, ha, by omega, fun v h => okK hR hK h ?_⟩, fun q3 => ⟨fun q4 => okK hR hK hR.1.2.2.2.1 ?_, fun q4 => ⟨fun q5 => okK hR hK hL' ?_, fun q5 => ⟨fun q6 => okK hR hK hR.2.2.1.2.1 ?_, fun q6 => rfq hR hK 0 (-2) (by decide) ?_⟩⟩⟩⟩⟩⟩⟩ <;> unfold ev_count
  · rw [iw 0 0 rfl] at q0; rw [if_pos q0]
  · rw [iw 0 0 rfl] at q0; rw [iw 1 1 rfl] at q1; rw [if_neg q0, if_pos q1]
  · rw [iw 0 0 rfl] at q0; rw [iw 1 1 rfl] at q1; rw [iw 2 2 rfl] at q2; rw [if_neg q0, if_neg q1, if_pos q2, hy]
  · rw [iw 0 0 rfl] at q0; rw [iw 1 1 rfl] at q1; rw [iw 2 2 rfl] at q2; rw [iw 3 3 rfl] at q3; rw [if_neg q0, if_neg q1, if_neg q2, if_pos q3, hy]
  · rw [iw 0 0 rfl] at q0; rw [iw 1 1 rfl] at q1; rw [iw 2 2 rfl] at q2; rw [iw 3 3 rfl] at q3; rw [iw 4 4 rfl] at q4; rw [if_neg q0, if_neg q1, if_neg q2, if_neg q3, if_pos q4]
  · rw [iw 0 0 rfl] at q0; rw [iw 1 1 rfl] at q1; rw [iw 2 2 rfl] at q2; rw [iw 3 3 rfl] at q3; rw [iw 4 4 rfl] at q4; rw [iw 5 5 rfl] at q5; rw [if_neg q0, if_neg q1, if_neg q2, if_neg q3, if_neg q4, if_pos q5]
  · rw [iw 0 0 rfl] at q0; rw [iw 1 1 rfl] at q1; rw [iw 2 2 rfl] at q2; rw [iw 3 3 rfl] at q3; rw [iw 4 4 rfl] at q4; rw [iw 5 5 rfl] at q5; rw [iw 6 6 rfl] at q6; rw [if_neg q0, if_neg q1, if_neg q2, if_neg q3, if_neg q4, if_neg q5, if_pos q6]
  · rw [iw 0 0 rfl] at q0; rw [iw 1 1 rfl] at q1; rw [iw 2 2 rfl] at q2; rw [iw 3 3 rfl] at q3; rw [iw 4 4 rfl] at q4; rw [iw 5 5 rfl] at q5; rw [iw 6 6 rfl] at q6; rw [if_neg q0, if_neg q1, if_neg q2, if_neg q3, if_neg q4, if_neg q5, if_neg q6]
theorem ms_X7_count : zMS 7 yX7_count cX7_count 2 (some .int) sp_X7_count := by
  intro d hd
  obtain ⟨d', rfl⟩ : ∃ d', d = d' + 7 := ⟨d - 7, by omega⟩
  refine zmethod (tab := tb_X7_count) (cut := []) (by decide) (tk_X7_count d' ms_X3_layersInAll ms_X3_boundIn ms_X3_quarrelsIn ms_X7_refuse) ?_
  intro kd as M K h
  unfold sp_X7_count at h
  split at h
  · rename_i w
    exact ⟨Nat.le_of_ble_eq_true rfl, fun X hX => mt_X7_count hX w M h⟩
  · exact h.elim

