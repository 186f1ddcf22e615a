theorem i_or0 (w : Int32) : w ||| (0 : Int32) = w := Int32.or_zero
set_option maxRecDepth 20000 in
theorem mt_X8_bindingOf {kd : Nat → Nat} {K : zK} {X : zX} (hX : ∀ (n pc : Nat) (ls : zLS) (st : List zV) (M : zM), zrun (tb_X8_bindingOf kd K) [(6, [7])] n X pc ls st M → X pc ls st M) (c : Int32) (g : Int32) (e : Int32) (y : Int32) (M : zM) (h : (kd 9 = 8) ∧ ∃ a : Sk, (RpF (M.1 9 5) a) ∧ (isC c.toInt) ∧ (0 ≤ y.toInt ∧ y.toInt < 1000000) ∧ ∀ v : Int32, (v.toInt = sk_bo a c.toInt g.toInt e.toInt y.toInt) → K (some (zI v)) M) : X 0 [some (zR 9 0), some (zI (c)), some (zI (g)), some (zI (e)), some (zI (y)), none, none, none] [] M := by
  obtain ⟨hk, a, ha, hc, hy, hK⟩ := h
  obtain ⟨cn, hcn⟩ : ∃ cn : Nat, c.toInt = cn := ⟨c.toInt.toNat, by omega⟩
  have hcc : c.toNatClampNeg = cn := by rw [z_cl]; omega
  have hc6 : cn < 6 := by omega
  have hlen := (ha.2.1 cn hc6).1
  have h4 := (ha.1.2 cn hc6).1
  have tl : zsm (fun i => if sk_q a c.toInt i g.toInt e.toInt y.toInt then (2 : Int) ^ i else 0) (a.1 cn).length = sk_bo a c.toInt g.toInt e.toInt y.toInt := by
    unfold sk_bo
    refine (zsm_tl h4 (fun k k1 k2 => ?_)).symm
    rw [sk_q_none (sk_at_none (fun x => by
      have h' := x.2.2.2
      unfold sk_len at h'
      rw [hcn, Int.toNat_natCast] at h'
      omega))]
    simp
  refine vc_X8_bindingOf_0 hX (up (N := (a.1 cn).length) (Q := fun j => ∀ w i : Int32, i.toInt = j → w.toInt = zsm (fun i => if sk_q a c.toInt i g.toInt e.toInt y.toInt then (2 : Int) ^ i else 0) j → X 6 [some (zR 9 0), some (zI c), some (zI g), some (zI e), some (zI y), some (zI w), some (zI i), none] [] M) (fun w i hi hw => ?_) (fun j hj ih w i hi hw => ?_) 0 (by omega) 0 0 rfl rfl)
  · refine vc_X8_bindingOf_6 hX hk ?_
    rw [z0a, hcc]
    refine ⟨zin_of (n := 127) (by rw [hk]; rfl) (by omega) (by omega), fun _ => hK _ (by rw [hw, tl]), fun q => ?_⟩
    rw [Int32.le_iff_toInt_le, hlen] at q; omega
  · obtain ⟨l, hl⟩ := sk_at_of (a := a) (c := c.toInt) (i := i.toInt) ⟨by omega, by omega, by omega, by unfold sk_len; rw [hcn, Int.toNat_natCast]; omega⟩
    have bw := zsm_bit (p := fun i => sk_q a c.toInt i g.toInt e.toInt y.toInt) j
    have sl : sk_q a c.toInt (j : Int) g.toInt e.toInt y.toInt = (decide (l.2.1 = g.toInt) && decide (l.2.2.1 = e.toInt) && bnd l.1 l (sk_at a c.toInt (i.toInt + 1)) y.toInt) := by rw [← hi]; exact sk_q_some hl
    have bdl : sk_bd a c.toInt i.toInt y.toInt = bnd l.1 l (sk_at a c.toInt (i.toInt + 1)) y.toInt := sk_bd_some hl
    have same : sk_q a c.toInt (j : Int) g.toInt e.toInt y.toInt = false → X 6 [some (zR 9 0), some (zI c), some (zI g), some (zI e), some (zI y), some (zI (w ||| (0 : Int32))), some (zI (i + 1)), none] [] M := fun e0 => ih _ _ (z_inc hi (by omega)) (by rw [zsm_s, e0, i_or0, hw]; simp)
    refine vc_X8_bindingOf_6 hX hk ?_
    rw [z0a, hcc]
    refine ⟨zin_of (n := 127) (by rw [hk]; rfl) (by omega) (by omega), fun q => ?_, fun _ => ⟨a, ha, l, hl, by decide, fun v1 h1 => ⟨fun q1 => same ?_, fun q1 => ⟨a, ha, l, hl, by decide, fun v2 h2 => ⟨fun q2 => same ?_, fun q2 => ⟨a, ha, by rw [hl]; simp, hy, fun v3 h3 => ⟨fun q3 => same ?_, fun q3 => ih _ _ (z_inc hi (by omega)) ?_⟩⟩⟩⟩⟩⟩⟩
    · rw [Int32.le_iff_toInt_le, hlen] at q; omega
    · have h1' : v1.toInt = l.2.1 := h1
      rw [← Int32.toInt_inj, h1'] at q1
      rw [sl]; simp [q1]
    · have h2' : v2.toInt = l.2.2.1 := h2
      rw [← Int32.toInt_inj, h2'] at q2
      rw [sl]; simp [q2]
    · rw [h3, zp_0, bdl] at q3
      rw [sl]; simp [q3]
    · have h1' : v1.toInt = l.2.1 := h1
      rw [← Int32.toInt_inj, h1'] at q1
      have h2' : v2.toInt = l.2.2.1 := h2
      rw [← Int32.toInt_inj, h2'] at q2
      rw [h3, zp_n, bdl] at q3
      have st : sk_q a c.toInt (j : Int) g.toInt e.toInt y.toInt = true := by rw [sl]; simp [q1, q2, q3]
      rw [zsm_s, z_orb (by omega) hi (by omega) (by omega), hw, if_pos st]
theorem ms_X8_bindingOf : zMS 6 yX8_bindingOf cX8_bindingOf 8 (some .int) sp_X8_bindingOf := by
  intro d hd
  obtain ⟨d', rfl⟩ : ∃ d', d = d' + 6 := ⟨d - 6, by omega⟩
  refine zmethod (tab := tb_X8_bindingOf) (cut := [(6, [7])]) (by decide) (tk_X8_bindingOf d' ms_X8_hands ms_X8_bindsNow) ?_
  intro kd as M K h
  unfold sp_X8_bindingOf at h
  split at h
  · rename_i c g e y
    exact ⟨Nat.le_of_ble_eq_true rfl, fun X hX => mt_X8_bindingOf hX c g e y M h⟩
  · exact h.elim

/-! small sets, put together -/
def bs4 (p0 p1 p2 p3 : Bool) : Int := (if p0 then 1 else 0) + (if p1 then 2 else 0) + (if p2 then 4 else 0) + (if p3 then 8 else 0)
theorem bs4_z (p : Nat → Bool) : zsm (fun i => if p i then (2 : Int) ^ i else 0) 4 = bs4 (p 0) (p 1) (p 2) (p 3) := by
  unfold bs4
  simp [zsm]
theorem z_or4d : ∀ p0 p1 p2 p3 q0 q1 q2 q3 : Bool, (Int32.ofInt (bs4 p0 p1 p2 p3) ||| Int32.ofInt (bs4 q0 q1 q2 q3)).toInt = bs4 (p0 || q0) (p1 || q1) (p2 || q2) (p3 || q3) := by decide +kernel
theorem z_or4 {p q : Nat → Bool} {w v : Int32} (hw : w.toInt = zsm (fun i => if p i then (2 : Int) ^ i else 0) 4) (hv : v.toInt = zsm (fun i => if q i then (2 : Int) ^ i else 0) 4) : (w ||| v).toInt = zsm (fun i => if (p i || q i) then (2 : Int) ^ i else 0) 4 := by
  have b1 := zsm_bit (p := p) 4
  have b2 := zsm_bit (p := q) 4
  have e : (2 : Int) ^ 4 = 16 := by decide
  rw [e] at b1 b2
  rw [z_lit hw (by omega) (by omega), z_lit hv (by omega) (by omega), bs4_z, bs4_z, bs4_z (fun i => p i || q i), z_or4d]
def tbt (a : Sk) (c y t i : Int) : Bool := match sk_at a c i with
  | some l => bnd l.1 l (sk_at a c (i + 1)) y && decide (sk_side a l.2.1 y = l.2.2.1) && decide (l.2.1 < t)
  | none => false
theorem law3 {a : Sk} {t y : Int} : sk_law a t y = 3 ↔ (0 < sk_N a t 1 y ∧ 0 < sk_N a t 0 y) := by
  unfold sk_law lw2
  split <;> split <;> omega
theorem side3 {a : Sk} {t y : Int} (h : sk_law a t y = 3) : sk_side a t y = if sk_N a t 1 y ≤ sk_N a t 0 y then 1 else 0 := by
  have := law3.mp h
  unfold sk_side
  rw [if_neg (by omega)]
theorem side_n {a : Sk} {t y : Int} (h : ¬ sk_law a t y = 3) : sk_side a t y = -1 := by
  have b1 := sk_N_b a t 1 y
  have b0 := sk_N_b a t 0 y
  rw [law3] at h
  unfold sk_side
  rw [if_pos (by omega)]
theorem tbt_s {a : Sk} (ha : okSk a) {c y i t e : Int} (he : sk_law a t y = 3 → e = sk_side a t y) : tbt a c y (t + 1) i = (tbt a c y t i || (decide (sk_law a t y = 3) && sk_q a c i t e y)) := by
  unfold tbt sk_q
  cases h : sk_at a c i with
  | none => simp
  | some l =>
    have hlb := sk_ok_at ha h
    unfold okLy at hlb
    simp only
    by_cases ht : l.2.1 = t
    · rw [ht]
      have h1 : t < t + 1 := by omega
      by_cases h3 : sk_law a t y = 3
      · rw [he h3]
        simp only [h1, h3, Int.lt_irrefl, decide_true, decide_false, Bool.and_true, Bool.and_false, Bool.false_or, Bool.true_and]
        rw [Bool.and_comm, decide_eq_decide.mpr (eq_comm (a := sk_side a t y) (b := l.2.2.1))]
      · have hn : ¬ sk_side a t y = l.2.2.1 := by rw [side_n h3]; omega
        simp [h3, hn]
    · have h1 : (l.2.1 < t + 1) ↔ l.2.1 < t := by omega
      simp [ht, h1]
theorem tbt_0 {a : Sk} (ha : okSk a) {c y i : Int} : tbt a c y 0 i = false := by
  unfold tbt
  cases h : sk_at a c i with
  | none => rfl
  | some l =>
    have hlb := sk_ok_at ha h
    unfold okLy at hlb
    have : ¬ l.2.1 < 0 := by omega
    simp [this]
theorem tbt_5 {a : Sk} (ha : okSk a) {c y i : Int} : tbt a c y 5 i = sk_tb a c i y := by
  unfold tbt sk_tb
  cases h : sk_at a c i with
  | none => rfl
  | some l =>
    have hlb := sk_ok_at ha h
    unfold okLy at hlb
    have : l.2.1 < 5 := by omega
    simp [this]
set_option maxRecDepth 20000 in
theorem mt_X8_tear {kd : Nat → Nat} {K : zK} {X : zX} (hX : ∀ (n pc : Nat) (ls : zLS) (st : List zV) (M : zM), zrun (tb_X8_tear kd K) [(40, [6])] n X pc ls st M → X pc ls st M) (y : Int32) (c : Int32) (M : zM) (h : (kd 9 = 8) ∧ ∃ s : St, (RpM M s) ∧ ∀ v : Int32, (v.toInt = (ev_tear s y.toInt c.toInt).1) → ∀ M' : zM, (RpM M' (ev_tear s y.toInt c.toInt).2) → (fr0 M M') → K (some (zI v)) M') : X 0 [some (zR 9 0), some (zI (y)), some (zI (c)), none, none, none, none] [] M := by
  obtain ⟨hk, s, hR, hK⟩ := h
  have cm : c = (-1 : Int32) ↔ c.toInt = -1 := by rw [← Int32.toInt_inj]; exact Iff.rfl
  refine vc_X8_tear_0 hX hk (fun v1 h1 => ⟨fun q v2 h2 M2 e2 => ?_, fun q v3 h3 => ?_⟩)
  · rw [h1, zp_0] at q
    exact mrf hR hK 0 (-10) (by decide) (by rw [h2]; rfl) (by unfold ev_tear; rw [if_neg (fun x => q x.1)]) e2
  · rw [h1, zp_n] at q
    rw [Int32.toInt_toInt64] at h3
    have h3' : v3 = zp (-1 ≤ c.toInt ∧ c.toInt ≤ 5) := h3
    refine ⟨fun q3 f4 hf4 M4 e4 => ?_, fun q3 v5 h5 M5 e5 => ?_⟩
    · rw [h3', zp_n] at q3
      have hall : isY y.toInt ∧ (c.toInt = -1 ∨ isC c.toInt) := ⟨q, by omega⟩
      have hev : ev_tear s y.toInt c.toInt = ((if c.toInt = -1 then sk_torn s.1.1 y.toInt else sk_tof s.1.1 c.toInt y.toInt), s) := by unfold ev_tear; rw [if_pos hall]
      rw [hev] at hK
      have hs := hR.sc (by decide) e4
      have ok := hR.1.1.1
      refine up (N := 5) (Q := fun j => ∀ (M1 : zM) (n w g : Int32), g.toInt = j → n.toInt = zsm (fun t => if sk_N s.1.1 t 0 y.toInt < sk_N s.1.1 t 1 y.toInt then sk_N s.1.1 t 0 y.toInt else sk_N s.1.1 t 1 y.toInt) j → (isC c.toInt → w.toInt = zsm (fun i => if tbt s.1.1 c.toInt y.toInt j i then (2 : Int) ^ i else 0) 4) → RpF (M1.1 9 5) s.1.1 → RpM M1 s → fr0 M M1 → X 40 [some (zR 9 0), some (zI y), some (zI c), some (zI n), some (zI w), some (zI g), none] [] M1) (fun M1 n w g hg hn hw ha hr hf => ?_) (fun j hj ih M1 n w g hg hn hw ha hr hf => ?_) 0 (by omega) M4 0 0 0 rfl rfl (fun _ => ?_) (by rw [e4, zmw_at]; exact hR.1.1.congr hf4) hs.1 hs.2
      · refine vc_X8_tear_40 hX hk ⟨fun _ => ⟨fun qc => hK _ ?_ M1 hr hf, fun qc => hK _ ?_ M1 hr hf⟩, fun q => by simp only [Int32.lt_iff_toInt_lt, Int32.le_iff_toInt_le, ← Int32.toInt_inj, Int32.toInt_add, Int32.toInt_sub, Int32.toInt_mul, Int32.toInt_neg, Int.bmod, Int32.reduceToInt] at q; omega⟩
        · rw [cm] at qc
          show _ = (if _ then _ else _)
          rw [if_neg qc, hw (by omega)]
          exact zsm_c (fun k _ => by rw [show ((5 : Nat) : Int) = 5 from rfl, tbt_5 ok])
        · rw [cm] at qc
          show _ = (if _ then _ else _)
          rw [if_pos qc, hn]
          rfl
      · have bz := zsm_b (f := fun t => if sk_N s.1.1 t 0 y.toInt < sk_N s.1.1 t 1 y.toInt then sk_N s.1.1 t 0 y.toInt else sk_N s.1.1 t 1 y.toInt) (lo := 0) (hi := 24) (fun k => by
          have b1 := sk_N_b s.1.1 k 1 y.toInt
          have b0 := sk_N_b s.1.1 k 0 y.toInt
          split <;> omega) j
        refine vc_X8_tear_40 hX hk ⟨fun q => by simp only [Int32.lt_iff_toInt_lt, Int32.le_iff_toInt_le, ← Int32.toInt_inj, Int32.toInt_add, Int32.toInt_sub, Int32.toInt_mul, Int32.toInt_neg, Int.bmod, Int32.reduceToInt] at q; omega, fun _ => ⟨s.1.1, ha, by omega, fun v1 hv1 f1 hf1 M2 e2 => ?_⟩⟩
        rw [hg] at hv1 hf1
        have h5 := hr.s0 (hf1.2.2 16 (by decide) (by decide)) e2
        have g7 : (M2.1 9 0 7).toInt = sk_N s.1.1 j 1 y.toInt := by rw [e2, zmw_at]; exact hf1.1
        have g8 : (M2.1 9 0 8).toInt = sk_N s.1.1 j 0 y.toInt := by rw [e2, zmw_at]; exact hf1.2.1
        have b1 := sk_N_b s.1.1 j 1 y.toInt
        have b0 := sk_N_b s.1.1 j 0 y.toInt
        have ha2 : RpF (M2.1 9 5) s.1.1 := by rw [e2, zmw_o (by decide)]; exact ha
        have nx : ∀ n' w' : Int32, n'.toInt = zsm (fun t => if sk_N s.1.1 t 0 y.toInt < sk_N s.1.1 t 1 y.toInt then sk_N s.1.1 t 0 y.toInt else sk_N s.1.1 t 1 y.toInt) (j + 1) → (isC c.toInt → w'.toInt = zsm (fun i => if tbt s.1.1 c.toInt y.toInt ((j + 1 : Nat) : Int) i then (2 : Int) ^ i else 0) 4) → X 40 [some (zR 9 0), some (zI y), some (zI c), some (zI n'), some (zI w'), some (zI (g + 1)), none] [] M2 := fun n' w' hn' hw' => ih M2 n' w' (g + 1) (z_inc hg (by omega)) hn' hw' ha2 h5.1 (hf.tr h5.2)
        have jc : ((j + 1 : Nat) : Int) = (j : Int) + 1 := rfl
        have wor : ∀ (e : Int) (v : Int32), sk_law s.1.1 j y.toInt = 3 → e = sk_side s.1.1 j y.toInt → v.toInt = sk_bo s.1.1 c.toInt j e y.toInt → isC c.toInt → (w ||| v).toInt = zsm (fun i => if tbt s.1.1 c.toInt y.toInt ((j + 1 : Nat) : Int) i then (2 : Int) ^ i else 0) 4 := fun e v h3 he hv hc => by
          rw [z_or4 (p := fun i => tbt s.1.1 c.toInt y.toInt j i) (q := fun i => sk_q s.1.1 c.toInt i j e y.toInt) (hw hc) hv]
          refine zsm_c (fun k _ => ?_)
          rw [jc, tbt_s ok (fun _ => he)]
          simp [h3]
        refine ⟨fun q1 => nx _ _ ?_ (fun hc => ?_), fun q1 => ?_⟩
        · rw [← Int32.toInt_inj, hv1] at q1
          have q1' : ¬ sk_law s.1.1 j y.toInt = 3 := q1
          rw [law3] at q1'
          rw [zsm_s, hn]
          split <;> omega
        · rw [← Int32.toInt_inj, hv1] at q1
          have q1' : ¬ sk_law s.1.1 j y.toInt = 3 := q1
          rw [hw hc]
          refine zsm_c (fun k _ => ?_)
          rw [jc, tbt_s ok (e := 0) (fun h => absurd h q1')]
          simp [q1']
        · rw [← Int32.toInt_inj, hv1] at q1
          have q1' : sk_law s.1.1 j y.toInt = 3 := q1
          have hsd := side3 q1'
          have hn0 : M2.1 9 0 8 < M2.1 9 0 7 → (n + M2.1 9 0 8).toInt = zsm (fun t => if sk_N s.1.1 t 0 y.toInt < sk_N s.1.1 t 1 y.toInt then sk_N s.1.1 t 0 y.toInt else sk_N s.1.1 t 1 y.toInt) (j + 1) := fun q2 => by
            rw [Int32.lt_iff_toInt_lt, g7, g8] at q2
            rw [zsm_s, if_pos q2, z_add (by omega) (by omega), hn, g8]
          have hn1 : ¬ M2.1 9 0 8 < M2.1 9 0 7 → (n + M2.1 9 0 7).toInt = zsm (fun t => if sk_N s.1.1 t 0 y.toInt < sk_N s.1.1 t 1 y.toInt then sk_N s.1.1 t 0 y.toInt else sk_N s.1.1 t 1 y.toInt) (j + 1) := fun q2 => by
            rw [Int32.lt_iff_toInt_lt, g7, g8] at q2
            rw [zsm_s, if_neg q2, z_add (by omega) (by omega), hn, g7]
          refine ⟨fun q2 => ⟨fun qc => ⟨s.1.1, ha2, ?_, by omega, fun v2 hv2 => nx _ _ (hn0 q2) (wor 0 v2 q1' ?_ ?_)⟩, fun qc => nx _ _ (hn0 q2) (fun hc => ?_)⟩, fun q2 => ⟨fun qc => ⟨s.1.1, ha2, ?_, by omega, fun v2 hv2 => nx _ _ (hn1 q2) (wor 1 v2 q1' ?_ ?_)⟩, fun qc => nx _ _ (hn1 q2) (fun hc => ?_)⟩⟩
          · rw [cm] at qc; omega
          · rw [Int32.lt_iff_toInt_lt, g7, g8] at q2
            rw [hsd, if_neg (by omega)]
          · rw [hg] at hv2; exact hv2
          · rw [cm] at qc; omega
          · rw [cm] at qc; omega
          · rw [Int32.lt_iff_toInt_lt, g7, g8] at q2
            rw [hsd, if_pos (by omega)]
          · rw [hg] at hv2; exact hv2
          · rw [cm] at qc; omega
      · show (0 : Int) = _
        simp [zsm, tbt_0 ok]
    · rw [h3', zp_0] at q3
      exact mrf hR hK 0 (-10) (by decide) (by rw [h5]; rfl) (by unfold ev_tear; rw [if_neg (fun x => by have := x.2; omega)]) e5
theorem ms_X8_tear : zMS 8 yX8_tear cX8_tear 7 (some .int) sp_X8_tear := by
  intro d hd
  obtain ⟨d', rfl⟩ : ∃ d', d = d' + 8 := ⟨d - 8, by omega⟩
  refine zmethod (tab := tb_X8_tear) (cut := [(40, [6])]) (by decide) (tk_X8_tear d' ms_X8_isYear ms_X8_in ms_X8_bad ms_X8_layHand ms_X8_ruleOf ms_X8_bindingOf) ?_
  intro kd as M K h
  unfold sp_X8_tear at h
  split at h
  · rename_i y c
    exact ⟨Nat.le_of_ble_eq_true rfl, fun X hX => mt_X8_tear hX y c M h⟩
  · exact h.elim

