set_option maxRecDepth 20000 in
theorem mt_X8_laySkin {kd : Nat → Nat} {K : zK} {X : zX} (hX : ∀ (n pc : Nat) (ls : zLS) (st : List zV) (M : zM), zrun (tb_X8_laySkin kd K) [(2, [])] n X pc ls st M → X pc ls st M) (t : Int32) (M : zM) (h : (kd 9 = 8) ∧ (0 ≤ t.toInt ∧ t.toInt < 4) ∧ ∀ f : Nat → Int32, (∀ j9, j9 < 127 → f (127 * t.toInt.toNat + j9) = M.1 9 5 j9) → (∀ j9, (j9 < 127 * t.toInt.toNat ∨ 127 * t.toInt.toNat + 127 ≤ j9) → f j9 = M.1 9 6 j9) → ∀ M' : zM, (M' = zmw M 9 6 f) → K none M') : X 0 [some (zR 9 0), some (zI (t)), none] [] M := by
  obtain ⟨hk, ht, hK⟩ := h
  obtain ⟨tn, htn⟩ : ∃ tn : Nat, t.toInt = tn := ⟨t.toInt.toNat, by omega⟩
  have htt : t.toInt.toNat = tn := by omega
  rw [htt] at hK
  refine vc_X8_laySkin_0 hX (up (N := 127) (Q := fun j => ∀ (M1 : zM) (k : Int32), k.toInt = j → (∀ m, m < j → M1.1 9 6 (127 * tn + m) = M.1 9 5 m) → (∀ m, (m < 127 * tn ∨ 127 * tn + 127 ≤ m) → M1.1 9 6 m = M.1 9 6 m) → (∃ f, M1 = zmw M 9 6 f) → X 2 [some (zR 9 0), some (zI t), some (zI k)] [] M1) (fun M1 k hk1 h0 h1 e1 => ?_) (fun j hj ih M1 k hk1 h0 h1 e1 => ?_) 0 (by omega) M 0 rfl (fun m hm => absurd hm (by omega)) (fun m _ => rfl) ⟨_, zmw_sf⟩)
  · obtain ⟨f, e1⟩ := e1
    have gf : M1.1 9 6 = f := by rw [e1, zmw_at]
    rw [gf] at h0 h1
    exact vc_X8_laySkin_2 hX hk ⟨fun _ => hK f h0 h1 M1 e1, fun q => by simp only [Int32.lt_iff_toInt_lt, Int32.le_iff_toInt_le, ← Int32.toInt_inj, Int32.toInt_add, Int32.toInt_sub, Int32.toInt_mul, Int32.toInt_neg, Int.bmod, Int32.reduceToInt] at q; omega⟩
  · obtain ⟨f, e1⟩ := e1
    have hkn : k.toNatClampNeg = j := by rw [z_cl]; omega
    have hq : ((127 : Int32) * t + k).toInt = 127 * tn + j := by simp only [Int32.lt_iff_toInt_lt, Int32.le_iff_toInt_le, ← Int32.toInt_inj, Int32.toInt_add, Int32.toInt_sub, Int32.toInt_mul, Int32.toInt_neg, Int.bmod, Int32.reduceToInt]; omega
    have hqn : ((127 : Int32) * t + k).toNatClampNeg = 127 * tn + j := by rw [z_cl]; omega
    have g1 : M1.1 9 5 = M.1 9 5 := by rw [e1, zmw_o (by decide)]
    refine vc_X8_laySkin_2 hX hk ⟨fun q => by simp only [Int32.lt_iff_toInt_lt, Int32.le_iff_toInt_le, ← Int32.toInt_inj, Int32.toInt_add, Int32.toInt_sub, Int32.toInt_mul, Int32.toInt_neg, Int.bmod, Int32.reduceToInt] at q; omega, fun _ => ⟨zin_of (n := 127) (by rw [hk]; rfl) (by omega) (by omega), zin_of (n := 508) (by rw [hk]; rfl) (by omega) (by omega), fun M2 e2 => ?_⟩⟩
    rw [hkn, hqn, g1] at e2
    have g2 : M2.1 9 6 = upd (M1.1 9 6) (127 * tn + j) (M.1 9 5 j) := by rw [e2, zmw_at]
    refine ih M2 (k + 1) (z_inc hk1 (by omega)) (fun m hm => ?_) (fun m hm => ?_) ⟨_, by rw [e2, e1, zmw_mw]⟩
    · rw [g2]
      by_cases hmj : m = j
      · subst hmj; rw [upd_at]
      · rw [upd_ne (by omega)]; exact h0 m (by omega)
    · rw [g2, upd_ne (by omega)]; exact h1 m hm
theorem ms_X8_laySkin : zMS 1 yX8_laySkin cX8_laySkin 3 none sp_X8_laySkin := by
  intro d hd
  obtain ⟨d', rfl⟩ : ∃ d', d = d' + 1 := ⟨d - 1, by omega⟩
  refine zmethod (tab := tb_X8_laySkin) (cut := [(2, [])]) (by decide) (tk_X8_laySkin d' ) ?_
  intro kd as M K h
  unfold sp_X8_laySkin at h
  split at h
  · rename_i t
    exact ⟨Nat.le_of_ble_eq_true rfl, fun X hX => mt_X8_laySkin hX t M h⟩
  · exact h.elim

set_option maxRecDepth 20000 in
theorem mt_X8_backTo {kd : Nat → Nat} {K : zK} {X : zX} (hX : ∀ (n pc : Nat) (ls : zLS) (st : List zV) (M : zM), zrun (tb_X8_backTo kd K) [(2, [])] n X pc ls st M → X pc ls st M) (t : Int32) (M : zM) (h : (kd 9 = 8) ∧ (0 ≤ t.toInt ∧ t.toInt < 4) ∧ ∀ f : Nat → Int32, (∀ j9, j9 < 127 → f j9 = M.1 9 6 (127 * t.toInt.toNat + j9)) → ∀ M' : zM, (M' = zmw M 9 5 f) → K none M') : X 0 [some (zR 9 0), some (zI (t)), none] [] M := by
  obtain ⟨hk, ht, hK⟩ := h
  obtain ⟨tn, htn⟩ : ∃ tn : Nat, t.toInt = tn := ⟨t.toInt.toNat, by omega⟩
  have htt : t.toInt.toNat = tn := by omega
  rw [htt] at hK
  refine vc_X8_backTo_0 hX (up (N := 127) (Q := fun j => ∀ (M1 : zM) (k : Int32), k.toInt = j → (∀ m, m < j → M1.1 9 5 m = M.1 9 6 (127 * tn + m)) → (∃ f, M1 = zmw M 9 5 f) → X 2 [some (zR 9 0), some (zI t), some (zI k)] [] M1) (fun M1 k hk1 h0 e1 => ?_) (fun j hj ih M1 k hk1 h0 e1 => ?_) 0 (by omega) M 0 rfl (fun m hm => absurd hm (by omega)) ⟨_, zmw_sf⟩)
  · obtain ⟨f, e1⟩ := e1
    have gf : M1.1 9 5 = f := by rw [e1, zmw_at]
    rw [gf] at h0
    exact vc_X8_backTo_2 hX hk ⟨fun _ => hK f h0 M1 e1, fun q => by simp only [Int32.lt_iff_toInt_lt, Int32.le_iff_toInt_le, ← Int32.toInt_inj, Int32.toInt_add, Int32.toInt_sub, Int32.toInt_mul, Int32.toInt_neg, Int.bmod, Int32.reduceToInt] at q; omega⟩
  · obtain ⟨f, e1⟩ := e1
    have hkn : k.toNatClampNeg = j := by rw [z_cl]; omega
    have hq : ((127 : Int32) * t + k).toInt = 127 * tn + j := by simp only [Int32.lt_iff_toInt_lt, Int32.le_iff_toInt_le, ← Int32.toInt_inj, Int32.toInt_add, Int32.toInt_sub, Int32.toInt_mul, Int32.toInt_neg, Int.bmod, Int32.reduceToInt]; omega
    have hqn : ((127 : Int32) * t + k).toNatClampNeg = 127 * tn + j := by rw [z_cl]; omega
    have g1 : M1.1 9 6 = M.1 9 6 := by rw [e1, zmw_o (by decide)]
    refine vc_X8_backTo_2 hX hk ⟨fun q => by simp only [Int32.lt_iff_toInt_lt, Int32.le_iff_toInt_le, ← Int32.toInt_inj, Int32.toInt_add, Int32.toInt_sub, Int32.toInt_mul, Int32.toInt_neg, Int.bmod, Int32.reduceToInt] at q; omega, fun _ => ⟨zin_of (n := 508) (by rw [hk]; rfl) (by omega) (by omega), zin_of (n := 127) (by rw [hk]; rfl) (by omega) (by omega), fun M2 e2 => ?_⟩⟩
    rw [hkn, hqn, g1] at e2
    have g2 : M2.1 9 5 = upd (M1.1 9 5) j (M.1 9 6 (127 * tn + j)) := by rw [e2, zmw_at]
    refine ih M2 (k + 1) (z_inc hk1 (by omega)) (fun m hm => ?_) ⟨_, by rw [e2, e1, zmw_mw]⟩
    rw [g2]
    by_cases hmj : m = j
    · subst hmj; rw [upd_at]
    · rw [upd_ne hmj]; exact h0 m (by omega)
theorem ms_X8_backTo : zMS 1 yX8_backTo cX8_backTo 3 none sp_X8_backTo := by
  intro d hd
  obtain ⟨d', rfl⟩ : ∃ d', d = d' + 1 := ⟨d - 1, by omega⟩
  refine zmethod (tab := tb_X8_backTo) (cut := [(2, [])]) (by decide) (tk_X8_backTo d' ) ?_
  intro kd as M K h
  unfold sp_X8_backTo at h
  split at h
  · rename_i t
    exact ⟨Nat.le_of_ble_eq_true rfl, fun X hX => mt_X8_backTo hX t M h⟩
  · exact h.elim

set_option maxRecDepth 20000 in
theorem mt_X8_power {kd : Nat → Nat} {K : zK} {X : zX} (hX : ∀ (n pc : Nat) (ls : zLS) (st : List zV) (M : zM), zrun (tb_X8_power kd K) [(5, [])] n X pc ls st M → X pc ls st M) (c : Int32) (n : Int32) (M : zM) (h : (0 ≤ c.toInt ∧ c.toInt ≤ 4) ∧ (0 ≤ n.toInt ∧ n.toInt ≤ 24) ∧ ∀ v : Int64, (v.toInt = pwr c.toInt n.toInt) → K (some (zL v)) M) : X 0 [some (zI (c)), some (zI (n)), none, none, none] [] M := by
  obtain ⟨hc, hn, hK⟩ := h
  obtain ⟨m, hm⟩ : ∃ m : Nat, n.toInt = m := ⟨n.toInt.toNat, by omega⟩
  refine vc_X8_power_0 hX (up (N := m) (Q := fun j => ∀ (k : Int32) (p : Int64), k.toInt = j → p.toInt = pwr c.toInt (j : Int) → X 5 [some (zI c), some (zI n), some (zL p), none, some (zI k)] [] M) (fun k p hk hp => ?_) (fun j hj ih k p hk hp => ?_) 0 (by omega) 0 1 rfl (by show (1 : Int) = _; unfold pwr; simp))
  · exact vc_X8_power_5 hX ⟨fun _ => hK p (by rw [hm]; exact hp), fun q => by simp only [Int32.lt_iff_toInt_lt, Int32.le_iff_toInt_le, ← Int32.toInt_inj, Int32.toInt_add, Int32.toInt_sub, Int32.toInt_mul, Int32.toInt_neg, Int.bmod, Int32.reduceToInt] at q; omega⟩
  · have hb := pwr_b (c := c.toInt) (n := ((j + 1 : Nat) : Int)) hc
    have hb4 := pwr_4 (n := ((j + 1 : Nat) : Int)) (by omega)
    have hci : (c.toInt64).toInt = c.toInt := Int32.toInt_toInt64 c
    refine vc_X8_power_5 hX ⟨fun q => by simp only [Int32.lt_iff_toInt_lt, Int32.le_iff_toInt_le, ← Int32.toInt_inj, Int32.toInt_add, Int32.toInt_sub, Int32.toInt_mul, Int32.toInt_neg, Int.bmod, Int32.reduceToInt] at q; omega, fun _ => ih (k + 1) (p * c.toInt64) (z_inc hk (by omega)) ?_⟩
    rw [pwr_s] at hb ⊢
    rw [L_mul (by rw [hp, hci]; omega) (by rw [hp, hci]; omega), hp, hci]
theorem ms_X8_power : zMS 1 yX8_power cX8_power 5 (some .long) sp_X8_power := by
  intro d hd
  obtain ⟨d', rfl⟩ : ∃ d', d = d' + 1 := ⟨d - 1, by omega⟩
  refine zmethod (tab := tb_X8_power) (cut := [(5, [])]) (by decide) (tk_X8_power d' ) ?_
  intro kd as M K h
  unfold sp_X8_power at h
  split at h
  · rename_i c n
    exact ⟨Nat.le_of_ble_eq_true rfl, fun X hX => mt_X8_power hX c n M h⟩
  · exact h.elim

set_option maxRecDepth 20000 in
theorem mt_X8_isLayer {kd : Nat → Nat} {K : zK} {X : zX} (hX : ∀ (n pc : Nat) (ls : zLS) (st : List zV) (M : zM), zrun (tb_X8_isLayer kd K) [] n X pc ls st M → X pc ls st M) (c : Int32) (i : Int32) (M : zM) (h : (kd 9 = 8) ∧ ∃ a : Sk, (RpF (M.1 9 1) a) ∧ ∀ v : Int32, (v = zp ((sk_at a c.toInt i.toInt).isSome = true)) → K (some (zI v)) M) : X 0 [some (zR 9 0), some (zI (c)), some (zI (i))] [] M := by
  obtain ⟨hk, a, ha, hK⟩ := h
  refine vc_X8_isLayer_0 hX hk (fun v1 h1 => ?_)
  rw [z0a]
  refine ⟨fun q => hK _ (zp_f ?_).symm, fun q => ?_⟩
  · rw [h1, zp_0] at q
    intro e
    have := sk_at_iff.mp e
    exact q ⟨this.1, this.2.1⟩
  · rw [h1, zp_n] at q
    have hl := ha.len q
    have hb := sk_len_b ha.1 q.1 q.2
    have hm : (M.1 9 1 c.toNatClampNeg - (1 : Int32)).toInt = sk_len a c.toInt - 1 := by simp only [Int32.lt_iff_toInt_lt, Int32.le_iff_toInt_le, ← Int32.toInt_inj, Int32.toInt_add, Int32.toInt_sub, Int32.toInt_mul, Int32.toInt_neg, Int.bmod, Int32.reduceToInt]; omega
    refine ⟨zin_of (n := 915) (by rw [hk]; rfl) (by omega) (by omega), fun v2 h2 => ?_⟩
    rw [Int32.toInt_toInt64, Int32.toInt_toInt64, hm] at h2
    have h2' : v2 = zp (0 ≤ i.toInt ∧ i.toInt ≤ sk_len a c.toInt - 1) := h2
    refine ⟨fun q2 => hK _ (zp_f ?_).symm, fun q2 => hK _ (zp_t ?_).symm⟩
    · rw [h2', zp_0] at q2
      intro e
      have := sk_at_iff.mp e
      omega
    · rw [h2', zp_n] at q2
      exact sk_at_iff.mpr ⟨q.1, q.2, by omega, by omega⟩
theorem ms_X8_isLayer : zMS 3 yX8_isLayer cX8_isLayer 3 (some .boolean) sp_X8_isLayer := by
  intro d hd
  obtain ⟨d', rfl⟩ : ∃ d', d = d' + 3 := ⟨d - 3, by omega⟩
  refine zmethod (tab := tb_X8_isLayer) (cut := []) (by decide) (tk_X8_isLayer d' ms_X8_isCell ms_X8_in) ?_
  intro kd as M K h
  unfold sp_X8_isLayer at h
  split at h
  · rename_i c i
    exact ⟨Nat.le_of_ble_eq_true rfl, fun X hX => mt_X8_isLayer hX c i M h⟩
  · exact h.elim

theorem canR_C {a : Sk} {c : Int} (h : sk_canR a c = true) : isC c := by
  obtain ⟨l, hl, _⟩ := sk_canR_iff.mp h
  obtain ⟨h0, h1, _⟩ := sk_top_get hl
  exact ⟨h0, h1⟩
set_option maxRecDepth 20000 in
theorem mt_X8_mayStroke {kd : Nat → Nat} {K : zK} {X : zX} (hX : ∀ (n pc : Nat) (ls : zLS) (st : List zV) (M : zM), zrun (tb_X8_mayStroke kd K) [] n X pc ls st M → X pc ls st M) (w : Int32) (M : zM) (h : (kd 9 = 8) ∧ ∃ a : Sk, (RpF (M.1 9 5) a) ∧ (0 ≤ w.toInt ∧ w.toInt ≤ 20) ∧ ∀ v : Int32, (v = zp (tr_may a w.toInt = true)) → K (some (zI v)) M) : X 0 [some (zR 9 0), some (zI (w))] [] M := by
  obtain ⟨hk, a, ha, hw, hK⟩ := h
  have w20 : w = (20 : Int32) ↔ w.toInt = 20 := by rw [← Int32.toInt_inj]; exact Iff.rfl
  have h10 : (w - (10 : Int32)).toInt = w.toInt - 10 := by simp only [Int32.lt_iff_toInt_lt, Int32.le_iff_toInt_le, ← Int32.toInt_inj, Int32.toInt_add, Int32.toInt_sub, Int32.toInt_mul, Int32.toInt_neg, Int.bmod, Int32.reduceToInt]; omega
  refine vc_X8_mayStroke_0 hX hk ?_
  rw [h10]
  have fin : ∀ b : Bool, tr_may a w.toInt = b → K (some (zI (if b then 1 else 0))) M := fun b hb => hK _ (by rw [hb]; cases b <;> rfl)
  have f1 : tr_may a w.toInt = true → K (some (zI 1)) M := fun e => fin true e
  have f0 : tr_may a w.toInt = false → K (some (zI 0)) M := fun e => fin false e
  refine ⟨fun q => f1 ?_, fun q v1 h1 => ⟨fun q1 v2 h2 => ⟨fun q2 => f0 ?_, fun q2 => ⟨by decide, a, ha, ?_, fun v3 h3 => ⟨fun q3 => f0 ?_, fun q3 => f1 ?_⟩⟩⟩, fun q1 => ⟨by decide, a, ha, ?_, fun v4 h4 => ⟨fun q4 => f1 ?_, fun q4 v5 h5 => ⟨fun q5 => f0 ?_, fun q5 => ?_⟩⟩⟩⟩⟩
  · rw [w20] at q
    simp [tr_may, q]
  · rw [w20] at q
    rw [h1, zp_0] at q1
    rw [h2, zp_0] at q2
    unfold tr_may sk_may
    by_cases h : w.toInt < 10
    · rw [if_pos h]
      have : sk_canR a w.toInt = false := by
        cases e : sk_canR a w.toInt with
        | false => rfl
        | true => exact absurd (canR_C e) q1
      simp [q, this]
    · rw [if_neg h]
      have : sk_canW a (w.toInt - 10) = false := by
        cases e : sk_canW a (w.toInt - 10) with
        | false => rfl
        | true => exact absurd (sk_canW_iff.mp e).1 q2
      simp [q, this]
  · rw [h2, zp_n] at q2; exact q2
  · rw [w20] at q
    rw [h2, zp_n] at q2
    rw [h3, zp_0] at q3
    unfold tr_may sk_may
    rw [if_neg (by omega)]
    simp [q, q3]
  · rw [w20] at q
    rw [h2, zp_n] at q2
    rw [h3, zp_n] at q3
    unfold tr_may sk_may
    rw [if_neg (by omega)]
    simp [q3]
  · rw [h1, zp_n] at q1; exact q1
  · rw [h1, zp_n] at q1
    rw [h4, zp_n] at q4
    unfold tr_may sk_may
    rw [if_pos (by omega)]
    simp [q4]
  · rw [w20] at q
    rw [h1, zp_n] at q1
    rw [h4, zp_0] at q4
    unfold tr_may sk_may
    rw [if_pos (by omega)]
    simp [q, q4]
  · rw [h1, zp_n] at q1
    rw [h5, zp_n] at q5
    omega
theorem ms_X8_mayStroke : zMS 4 yX8_mayStroke cX8_mayStroke 2 (some .boolean) sp_X8_mayStroke := by
  intro d hd
  obtain ⟨d', rfl⟩ : ∃ d', d = d' + 4 := ⟨d - 4, by omega⟩
  refine zmethod (tab := tb_X8_mayStroke) (cut := []) (by decide) (tk_X8_mayStroke d' ms_X8_isCell ms_X8_mayRub ms_X8_mayWrite) ?_
  intro kd as M K h
  unfold sp_X8_mayStroke at h
  split at h
  · rename_i w
    exact ⟨Nat.le_of_ble_eq_true rfl, fun X hX => mt_X8_mayStroke hX w M h⟩
  · exact h.elim

set_option maxRecDepth 20000 in
theorem mt_X8_goStroke {kd : Nat → Nat} {K : zK} {X : zX} (hX : ∀ (n pc : Nat) (ls : zLS) (st : List zV) (M : zM), zrun (tb_X8_goStroke kd K) [] n X pc ls st M → X pc ls st M) (w : Int32) (g : Int32) (e : Int32) (M : zM) (h : (kd 9 = 8) ∧ ∃ a : Sk, (RpF (M.1 9 5) a) ∧ (0 ≤ w.toInt ∧ w.toInt ≤ 20) ∧ (tr_may a w.toInt = true) ∧ (0 ≤ g.toInt ∧ g.toInt ≤ 4) ∧ (e.toInt = 0 ∨ e.toInt = 1) ∧ ∀ f : Nat → Int32, (RpF f (tr_do a w.toInt g.toInt e.toInt)) → ∀ M' : zM, (M' = zmw M 9 5 f) → K none M') : X 0 [some (zR 9 0), some (zI (w)), some (zI (g)), some (zI (e)), none] [] M := by
  obtain ⟨hk, a, ha, hw, hm, hg, he, hK⟩ := h
  have w20 : w = (20 : Int32) ↔ w.toInt = 20 := by rw [← Int32.toInt_inj]; exact Iff.rfl
  have h10 : (w - (10 : Int32)).toInt = w.toInt - 10 := by simp only [Int32.lt_iff_toInt_lt, Int32.le_iff_toInt_le, ← Int32.toInt_inj, Int32.toInt_add, Int32.toInt_sub, Int32.toInt_mul, Int32.toInt_neg, Int.bmod, Int32.reduceToInt]; omega
  refine vc_X8_goStroke_0 hX hk (fun v1 h1 => ?_)
  rw [h10]
  refine ⟨fun q1 => ⟨fun q => ?_, fun q => ?_⟩, fun q1 => ?_⟩
  · rw [w20] at q
    refine hK _ ?_ M zmw_sf
    unfold tr_do
    rw [if_pos q]
    exact ha
  · rw [w20] at q
    rw [h1, zp_0] at q1
    unfold tr_may sk_may at hm
    have hn : ¬ w.toInt < 10 := by
      intro h
      rw [if_pos h] at hm
      simp [q] at hm
      exact q1 (canR_C hm)
    rw [if_neg hn] at hm
    simp [q] at hm
    have hW := sk_canW_iff.mp hm
    refine ⟨by decide, a, ha, hW.1, hW.2.1, hW.2.2, by decide, hg, he, fun v2 h2 f2 hf2 _ M2 e2 => hK f2 ?_ M2 e2⟩
    unfold tr_do sk_do
    rw [if_neg q, if_neg hn]
    exact hf2
  · rw [h1, zp_n] at q1
    have q : ¬ w.toInt = 20 := by omega
    unfold tr_may sk_may at hm
    rw [if_pos (by omega)] at hm
    simp [q] at hm
    obtain ⟨l, hl, _⟩ := sk_canR_iff.mp hm
    refine ⟨by decide, a, ha, l, hl, fun v3 h3 f3 hf3 _ M3 e3 => hK f3 ?_ M3 e3⟩
    unfold tr_do sk_do
    rw [if_neg q, if_pos (by omega)]
    exact hf3
theorem ms_X8_goStroke : zMS 3 yX8_goStroke cX8_goStroke 5 none sp_X8_goStroke := by
  intro d hd
  obtain ⟨d', rfl⟩ : ∃ d', d = d' + 3 := ⟨d - 3, by omega⟩
  refine zmethod (tab := tb_X8_goStroke) (cut := []) (by decide) (tk_X8_goStroke d' ms_X8_isCell ms_X8_goRub ms_X8_goWrite) ?_
  intro kd as M K h
  unfold sp_X8_goStroke at h
  split at h
  · rename_i w g e
    exact ⟨Nat.le_of_ble_eq_true rfl, fun X hX => mt_X8_goStroke hX w g e M h⟩
  · exact h.elim

