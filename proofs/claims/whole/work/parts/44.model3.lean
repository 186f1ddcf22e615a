theorem zsm_tl {f : Nat → Int} {n : Nat} : ∀ {m : Nat}, n ≤ m → (∀ k, n ≤ k → k < m → f k = 0) → zsm f m = zsm f n
  | 0, h, _ => by rw [show n = 0 by omega]
  | m + 1, h, hz => by
    by_cases e : n = m + 1
    · rw [e]
    · rw [zsm_s, hz m (by omega) (by omega), zsm_tl (m := m) (by omega) (fun k h1 h2 => hz k h1 (by omega))]
      omega
def lrF (M M1 : zM) (p q : Int) : Prop := (M1.1 9 0 7).toInt = p ∧ (M1.1 9 0 8).toInt = q ∧ (∀ k, k ≠ 7 → k ≠ 8 → M1.1 9 0 k = M.1 9 0 k) ∧ ∃ F, M1 = zmw M 9 0 F
theorem lrF.h {M M1 : zM} {p q : Int} (h : lrF M M1 p q) : M1.1 9 5 = M.1 9 5 := by
  obtain ⟨F, e⟩ := h.2.2.2
  rw [e, zmw_o (by decide)]
theorem lrF.e {M M1 : zM} {p q : Int} (h : lrF M M1 p q) : M1 = zmw M 9 0 (M1.1 9 0) := by
  obtain ⟨F, e⟩ := h.2.2.2
  rw [e, zmw_at]
set_option maxRecDepth 20000 in
theorem mt_X8_layRule {kd : Nat → Nat} {K : zK} {X : zX} (hX : ∀ (n pc : Nat) (ls : zLS) (st : List zV) (M : zM), zrun (tb_X8_layRule kd K) [(12, [4]), (21, [])] n X pc ls st M → X pc ls st M) (g : Int32) (y : Int32) (M : zM) (h : (kd 9 = 8) ∧ ∃ a : Sk, (RpF (M.1 9 5) a) ∧ (0 ≤ y.toInt ∧ y.toInt < 1000000) ∧ ∀ f : Nat → Int32, ((f 7).toInt = sk_N a g.toInt 1 y.toInt ∧ (f 8).toInt = sk_N a g.toInt 0 y.toInt ∧ ∀ j9, j9 ≠ 7 → j9 ≠ 8 → f j9 = M.1 9 0 j9) → ∀ M' : zM, (M' = zmw M 9 0 f) → K none M') : X 0 [some (zR 9 0), some (zI (g)), some (zI (y)), none, none] [] M := by
  obtain ⟨hk, a, ha, hy, hK⟩ := h
  have qb : ∀ (e : Int) (c : Nat) (n : Nat), 0 ≤ zsm (fun i => b2i (sk_q a c i g.toInt e y.toInt)) n ∧ zsm (fun i => b2i (sk_q a c i g.toInt e y.toInt)) n ≤ n := fun e c n => by
    have := zsm_b (f := fun i => b2i (sk_q a c i g.toInt e y.toInt)) (lo := 0) (hi := 1) (fun k => b2i_b _) n
    omega
  have nb : ∀ (e : Int) (n : Nat), 0 ≤ zsm (fun c => sk_n a c g.toInt e y.toInt) n ∧ zsm (fun c => sk_n a c g.toInt e y.toInt) n ≤ n * 4 := fun e n => by
    have := zsm_b (f := fun c => sk_n a c g.toInt e y.toInt) (lo := 0) (hi := 4) (fun k => sk_n_b _ _ _ _ _) n
    omega
  have outer : ∀ j : Nat, j ≤ 6 → ∀ (M1 : zM) (c : Int32), c.toInt = j → lrF M M1 (zsm (fun c => sk_n a c g.toInt 1 y.toInt) j) (zsm (fun c => sk_n a c g.toInt 0 y.toInt) j) → X 12 [some (zR 9 0), some (zI g), some (zI y), some (zI c), none] [] M1 := by
    refine up (N := 6) (Q := fun j => ∀ (M1 : zM) (c : Int32), c.toInt = j → lrF M M1 (zsm (fun c => sk_n a c g.toInt 1 y.toInt) j) (zsm (fun c => sk_n a c g.toInt 0 y.toInt) j) → X 12 [some (zR 9 0), some (zI g), some (zI y), some (zI c), none] [] M1) (fun M1 c hc h1 => ?_) (fun j hj ih M1 c hc h1 => ?_)
    · exact vc_X8_layRule_12 hX ⟨fun _ => hK _ ⟨h1.1, h1.2.1, h1.2.2.1⟩ M1 h1.e, fun q => by simp only [Int32.lt_iff_toInt_lt, Int32.le_iff_toInt_le, ← Int32.toInt_inj, Int32.toInt_add, Int32.toInt_sub, Int32.toInt_mul, Int32.toInt_neg, Int.bmod, Int32.reduceToInt] at q; omega⟩
    · refine vc_X8_layRule_12 hX ⟨fun q => by simp only [Int32.lt_iff_toInt_lt, Int32.le_iff_toInt_le, ← Int32.toInt_inj, Int32.toInt_add, Int32.toInt_sub, Int32.toInt_mul, Int32.toInt_neg, Int.bmod, Int32.reduceToInt] at q; omega, fun _ => ?_⟩
      have hcn : c.toNatClampNeg = j := by rw [z_cl]; omega
      have hlen := (ha.2.1 j hj).1
      have h4 := (ha.1.2 j hj).1
      have tl : ∀ e : Int, zsm (fun i => b2i (sk_q a j i g.toInt e y.toInt)) (a.1 j).length = sk_n a j g.toInt e y.toInt := by
        intro e
        unfold sk_n
        refine (zsm_tl h4 (fun k k1 k2 => ?_)).symm
        rw [sk_q_none (sk_at_none (fun x => by
          have h' := x.2.2.2
          unfold sk_len at h'
          rw [Int.toNat_natCast] at h'
          omega))]
        rfl
      have bl := nb 1 j
      have bf := nb 0 j
      refine up (N := (a.1 j).length) (Q := fun i => ∀ (M2 : zM) (x : Int32), x.toInt = i → lrF M M2 (zsm (fun c => sk_n a c g.toInt 1 y.toInt) j + zsm (fun i => b2i (sk_q a j i g.toInt 1 y.toInt)) i) (zsm (fun c => sk_n a c g.toInt 0 y.toInt) j + zsm (fun i => b2i (sk_q a j i g.toInt 0 y.toInt)) i) → X 21 [some (zR 9 0), some (zI g), some (zI y), some (zI c), some (zI x)] [] M2) (fun M2 x hx h2 => ?_) (fun i hi ih2 M2 x hx h2 => ?_) 0 (by omega) M1 0 rfl (by simpa [zsm] using h1)
      · refine vc_X8_layRule_21 hX hk ?_
        rw [z0a, hcn]
        refine ⟨zin_of (n := 127) (by rw [hk]; rfl) (by omega) (by omega), fun _ => ih M2 (c + 1) (z_inc hc (by omega)) ?_, fun q => ?_⟩
        · rw [tl 1, tl 0] at h2
          rw [zsm_s, zsm_s]
          exact h2
        · rw [h2.h, Int32.le_iff_toInt_le, hlen] at q
          omega
      · refine vc_X8_layRule_21 hX hk ?_
        rw [z0a, hcn]
        obtain ⟨l, hl⟩ := sk_at_of (a := a) (c := (j : Int)) (i := (i : Int)) ⟨by omega, by omega, by omega, by unfold sk_len; rw [Int.toNat_natCast]; omega⟩
        have hlb := sk_ok_at ha.1 hl
        unfold okLy at hlb
        have h5 : M2.1 9 5 = M.1 9 5 := h2.h
        have ha2 : RpF (M2.1 9 5) a := by rw [h5]; exact ha
        have b1 := qb 1 j i
        have b0 := qb 0 j i
        have sl : ∀ e, sk_q a j i g.toInt e y.toInt = (decide (l.2.1 = g.toInt) && decide (l.2.2.1 = e) && bnd l.1 l (sk_at a j (i + 1)) y.toInt) := fun e => sk_q_some hl
        have bdl : sk_bd a j i y.toInt = bnd l.1 l (sk_at a j (i + 1)) y.toInt := by unfold sk_bd; rw [hl]
        have same : (∀ e, sk_q a j i g.toInt e y.toInt = false) → X 21 [some (zR 9 0), some (zI g), some (zI y), some (zI c), some (zI (x + 1))] [] M2 := fun e => ih2 M2 (x + 1) (z_inc hx (by omega)) (by
          rw [zsm_s, zsm_s, e 1, e 0]
          simpa [b2i] using h2)
        refine ⟨zin_of (n := 127) (by rw [hk]; rfl) (by omega) (by omega), fun q => ?_, fun _ => ?_⟩
        · rw [h5, Int32.le_iff_toInt_le, hlen] at q
          omega
        · rw [hc, hx]
          refine ⟨a, ha2, l, hl, by decide, fun v1 h1 => ⟨fun q1 => same (fun e => ?_), fun q1 => ⟨a, ha2, by rw [hl]; simp, hy, fun v2 hv2 => ⟨fun q2 => same (fun e => ?_), fun q2 => ⟨a, ha2, l, hl, by decide, fun v3 h3 M4 e4 => ?_⟩⟩⟩⟩⟩
          · have h1' : v1.toInt = l.2.1 := h1
            rw [← Int32.toInt_inj, h1'] at q1
            rw [sl e]; simp [q1]
          · rw [hv2, zp_0, bdl] at q2
            rw [sl e]; simp [q2]
          · have h1' : v1.toInt = l.2.1 := h1
            rw [← Int32.toInt_inj, h1'] at q1
            rw [hv2, zp_n, bdl] at q2
            have h3' : v3.toInt = l.2.2.1 := h3
            refine ⟨a, by rw [e4, zmw_o (by decide)]; exact ha2, l, hl, by decide, fun v5 hv5 M6 e6 => ?_⟩
            have h5' : v5.toInt = l.2.2.1 := hv5
            rw [e4, zmw_at, zmw_mw, upd_ne (by decide)] at e6
            have g6 : M6.1 9 0 = upd (upd (M2.1 9 0) 7 (M2.1 9 0 7 + v3)) 8 (M2.1 9 0 8 + (1 - v5)) := by rw [e6, zmw_at]
            have p7 := h2.1
            have p8 := h2.2.1
            refine ih2 M6 (x + 1) (z_inc hx (by omega)) ⟨?_, ?_, fun k k7 k8 => ?_, ?_⟩
            · rw [g6, upd_ne (by decide), upd_at, zsm_s, sl 1]
              have : b2i (decide (l.2.1 = g.toInt) && decide (l.2.2.1 = 1) && bnd l.1 l (sk_at a j (i + 1)) y.toInt) = l.2.2.1 := by
                rcases hlb.2.2.1 with e0 | e0 <;> simp [q1, q2, e0, b2i]
              rw [this]
              simp only [Int32.lt_iff_toInt_lt, Int32.le_iff_toInt_le, ← Int32.toInt_inj, Int32.toInt_add, Int32.toInt_sub, Int32.toInt_mul, Int32.toInt_neg, Int.bmod, Int32.reduceToInt]
              omega
            · rw [g6, upd_at, zsm_s, sl 0]
              have : b2i (decide (l.2.1 = g.toInt) && decide (l.2.2.1 = 0) && bnd l.1 l (sk_at a j (i + 1)) y.toInt) = 1 - l.2.2.1 := by
                rcases hlb.2.2.1 with e0 | e0 <;> simp [q1, q2, e0, b2i]
              rw [this]
              simp only [Int32.lt_iff_toInt_lt, Int32.le_iff_toInt_le, ← Int32.toInt_inj, Int32.toInt_add, Int32.toInt_sub, Int32.toInt_mul, Int32.toInt_neg, Int.bmod, Int32.reduceToInt]
              omega
            · rw [g6, upd_ne k8, upd_ne k7]; exact h2.2.2.1 k k7 k8
            · obtain ⟨F, eF⟩ := h2.2.2.2
              exact ⟨_, by rw [e6]; conv => lhs; rw [eF]
                           rw [zmw_mw]⟩
  refine vc_X8_layRule_0 hX hk (fun M1 e1 M2 e2 => outer 0 (by omega) M2 0 rfl ?_)
  rw [e1, zmw_at, zmw_mw] at e2
  have g2 : M2.1 9 0 = upd (upd (M.1 9 0) 7 0) 8 0 := by rw [e2, zmw_at]
  exact ⟨by rw [g2, upd_ne (by decide), upd_at]; rfl, by rw [g2, upd_at]; rfl, fun k k7 k8 => by rw [g2, upd_ne k8, upd_ne k7], _, e2⟩
theorem ms_X8_layRule : zMS 6 yX8_layRule cX8_layRule 5 none sp_X8_layRule := by
  intro d hd
  obtain ⟨d', rfl⟩ : ∃ d', d = d' + 6 := ⟨d - 6, by omega⟩
  refine zmethod (tab := tb_X8_layRule) (cut := [(12, [4]), (21, [])]) (by decide) (tk_X8_layRule d' ms_X8_hands ms_X8_bindsNow) ?_
  intro kd as M K h
  unfold sp_X8_layRule at h
  split at h
  · rename_i g y
    exact ⟨Nat.le_of_ble_eq_true rfl, fun X hX => mt_X8_layRule hX g y M h⟩
  · exact h.elim

set_option maxRecDepth 20000 in
theorem mt_X8_ruleOf {kd : Nat → Nat} {K : zK} {X : zX} (hX : ∀ (n pc : Nat) (ls : zLS) (st : List zV) (M : zM), zrun (tb_X8_ruleOf kd K) [] n X pc ls st M → X pc ls st M) (g : Int32) (y : Int32) (M : zM) (h : (kd 9 = 8) ∧ ∃ a : Sk, (RpF (M.1 9 5) a) ∧ (0 ≤ y.toInt ∧ y.toInt < 1000000) ∧ ∀ v : Int32, (v.toInt = sk_law a g.toInt y.toInt) → ∀ f : Nat → Int32, ((f 7).toInt = sk_N a g.toInt 1 y.toInt ∧ (f 8).toInt = sk_N a g.toInt 0 y.toInt ∧ ∀ j9, j9 ≠ 7 → j9 ≠ 8 → f j9 = M.1 9 0 j9) → ∀ M' : zM, (M' = zmw M 9 0 f) → K (some (zI v)) M') : X 0 [some (zR 9 0), some (zI (g)), some (zI (y))] [] M := by
  obtain ⟨hk, a, ha, hy, hK⟩ := h
  refine vc_X8_ruleOf_0 hX hk ⟨a, ha, hy, fun f1 hf M1 e1 => ?_⟩
  have g7 : (M1.1 9 0 7).toInt = sk_N a g.toInt 1 y.toInt := by rw [e1, zmw_at]; exact hf.1
  have g8 : (M1.1 9 0 8).toInt = sk_N a g.toInt 0 y.toInt := by rw [e1, zmw_at]; exact hf.2.1
  have i7 : M1.1 9 0 7 ≤ 0 ↔ ¬ 0 < sk_N a g.toInt 1 y.toInt := by rw [Int32.le_iff_toInt_le, g7]; show _ ≤ (0 : Int) ↔ _; omega
  have i8 : M1.1 9 0 8 ≤ 0 ↔ ¬ 0 < sk_N a g.toInt 0 y.toInt := by rw [Int32.le_iff_toInt_le, g8]; show _ ≤ (0 : Int) ↔ _; omega
  rw [i7, i8]
  refine ⟨fun q7 => ⟨fun q8 => hK _ ?_ f1 hf M1 e1, fun q8 => hK _ ?_ f1 hf M1 e1⟩, fun q7 => ⟨fun q8 => hK _ ?_ f1 hf M1 e1, fun q8 => hK _ ?_ f1 hf M1 e1⟩⟩ <;> unfold sk_law lw2
  · rw [if_neg q7, if_neg q8]; rfl
  · rw [if_neg q7, if_pos (by omega)]; rfl
  · rw [if_pos (by omega), if_neg q8]; rfl
  · rw [if_pos (by omega), if_pos (by omega)]; rfl
theorem ms_X8_ruleOf : zMS 7 yX8_ruleOf cX8_ruleOf 3 (some .int) sp_X8_ruleOf := by
  intro d hd
  obtain ⟨d', rfl⟩ : ∃ d', d = d' + 7 := ⟨d - 7, by omega⟩
  refine zmethod (tab := tb_X8_ruleOf) (cut := []) (by decide) (tk_X8_ruleOf d' ms_X8_layRule) ?_
  intro kd as M K h
  unfold sp_X8_ruleOf at h
  split at h
  · rename_i g y
    exact ⟨Nat.le_of_ble_eq_true rfl, fun X hX => mt_X8_ruleOf hX g y M h⟩
  · exact h.elim

set_option maxRecDepth 20000 in
theorem mt_X8_quarrels {kd : Nat → Nat} {K : zK} {X : zX} (hX : ∀ (n pc : Nat) (ls : zLS) (st : List zV) (M : zM), zrun (tb_X8_quarrels kd K) [(4, [])] n X pc ls st M → X pc ls st M) (y : Int32) (M : zM) (h : (kd 9 = 8) ∧ ∃ a : Sk, (RpF (M.1 9 5) a) ∧ (0 ≤ y.toInt ∧ y.toInt < 1000000) ∧ ∀ v : Int32, (v.toInt = sk_qu a y.toInt) → ∀ f : Nat → Int32, (∀ j9, j9 ≠ 7 → j9 ≠ 8 → f j9 = M.1 9 0 j9) → ∀ M' : zM, (M' = zmw M 9 0 f) → K (some (zI v)) M') : X 0 [some (zR 9 0), some (zI (y)), none, none] [] M := by
  obtain ⟨hk, a, ha, hy, hK⟩ := h
  refine vc_X8_quarrels_0 hX (up (N := 5) (Q := fun j => ∀ (M1 : zM) (n g : Int32), g.toInt = j → n.toInt = zsm (fun t => b2i (decide (sk_law a t y.toInt = 3))) j → (∀ k, k ≠ 7 → k ≠ 8 → M1.1 9 0 k = M.1 9 0 k) → M1 = zmw M 9 0 (M1.1 9 0) → X 4 [some (zR 9 0), some (zI y), some (zI n), some (zI g)] [] M1) (fun M1 n g hg hn hf e1 => ?_) (fun j hj ih M1 n g hg hn hf e1 => ?_) 0 (by omega) M 0 0 rfl rfl (fun k _ _ => rfl) zmw_sf)
  · exact vc_X8_quarrels_4 hX hk ⟨fun _ => hK n hn _ hf M1 e1, fun q => by simp only [Int32.lt_iff_toInt_lt, Int32.le_iff_toInt_le, ← Int32.toInt_inj, Int32.toInt_add, Int32.toInt_sub, Int32.toInt_mul, Int32.toInt_neg, Int.bmod, Int32.reduceToInt] at q; omega⟩
  · have h5 : M1.1 9 5 = M.1 9 5 := by rw [e1, zmw_o (by decide)]
    have hb := zsm_b (f := fun t => b2i (decide (sk_law a t y.toInt = 3))) (lo := 0) (hi := 1) (fun k => b2i_b _) j
    refine vc_X8_quarrels_4 hX hk ⟨fun q => by simp only [Int32.lt_iff_toInt_lt, Int32.le_iff_toInt_le, ← Int32.toInt_inj, Int32.toInt_add, Int32.toInt_sub, Int32.toInt_mul, Int32.toInt_neg, Int.bmod, Int32.reduceToInt] at q; omega, fun _ => ⟨a, by rw [h5]; exact ha, hy, fun v1 h1 f1 hf1 M2 e2 => ?_⟩⟩
    rw [hg] at h1
    have g2 : M2.1 9 0 = f1 := by rw [e2, zmw_at]
    have nx : ∀ n' : Int32, n'.toInt = zsm (fun t => b2i (decide (sk_law a t y.toInt = 3))) (j + 1) → X 4 [some (zR 9 0), some (zI y), some (zI n'), some (zI (g + 1))] [] M2 := fun n' hn' => ih M2 n' (g + 1) (z_inc hg (by omega)) hn' (fun k k7 k8 => by rw [g2, hf1.2.2 k k7 k8, hf k k7 k8]) (by
      rw [g2, e2]
      conv => lhs; rw [e1]
      rw [zmw_mw])
    refine ⟨fun q => nx _ ?_, fun q => nx _ ?_⟩
    · rw [← Int32.toInt_inj, h1] at q
      have q' : ¬ sk_law a j y.toInt = 3 := q
      rw [zsm_s, show b2i (decide (sk_law a j y.toInt = 3)) = 0 by simp [b2i, q']]
      simp only [Int32.lt_iff_toInt_lt, Int32.le_iff_toInt_le, ← Int32.toInt_inj, Int32.toInt_add, Int32.toInt_sub, Int32.toInt_mul, Int32.toInt_neg, Int.bmod, Int32.reduceToInt]
      omega
    · rw [← Int32.toInt_inj, h1] at q
      have q' : sk_law a j y.toInt = 3 := q
      rw [zsm_s, show b2i (decide (sk_law a j y.toInt = 3)) = 1 by simp [b2i, q']]
      simp only [Int32.lt_iff_toInt_lt, Int32.le_iff_toInt_le, ← Int32.toInt_inj, Int32.toInt_add, Int32.toInt_sub, Int32.toInt_mul, Int32.toInt_neg, Int.bmod, Int32.reduceToInt]
      omega
theorem ms_X8_quarrels : zMS 8 yX8_quarrels cX8_quarrels 4 (some .int) sp_X8_quarrels := by
  intro d hd
  obtain ⟨d', rfl⟩ : ∃ d', d = d' + 8 := ⟨d - 8, by omega⟩
  refine zmethod (tab := tb_X8_quarrels) (cut := [(4, [])]) (by decide) (tk_X8_quarrels d' ms_X8_ruleOf) ?_
  intro kd as M K h
  unfold sp_X8_quarrels at h
  split at h
  · rename_i y
    exact ⟨Nat.le_of_ble_eq_true rfl, fun X hX => mt_X8_quarrels hX y M h⟩
  · exact h.elim

