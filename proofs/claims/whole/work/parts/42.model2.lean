theorem zmw_sf {M : zM} {t o : Nat} : M = zmw M t o (M.1 t o) := by
  have h : zrw (M.1 t) o (M.1 t o) = M.1 t := by
    funext p
    by_cases hp : p = o
    · subst hp; rw [zrw_at]
    · rw [zrw_ne hp]
  rw [zmw_bs, h, zbs_self]
theorem zmw_o {M : zM} {t o p : Nat} {f : Nat → Int32} (h : p ≠ o) : (zmw M t o f).1 t p = M.1 t p := by rw [zmw_bs, zbs_at, zrw_ne h]
theorem RpF.congr {f g : Nat → Int32} {a : Sk} (h : RpF f a) (e : ∀ k, k < 127 → g k = f k) : RpF g a := by
  refine ⟨h.1, fun c hc => ?_, by rw [e _ (by omega)]; exact h.2.2⟩
  have h4 := (h.1.2 c hc).1
  refine ⟨by rw [e _ (by omega)]; exact (h.2.1 c hc).1, fun i l hl j hj => ?_⟩
  have hi := (List.getElem?_eq_some_iff.mp hl).1
  rw [e _ (by omega)]
  exact (h.2.1 c hc).2 i l hl j hj
set_option maxRecDepth 20000 in
theorem mt_X8_begin {kd : Nat → Nat} {K : zK} {X : zX} (hX : ∀ (n pc : Nat) (ls : zLS) (st : List zV) (M : zM), zrun (tb_X8_begin kd K) [(2, [])] n X pc ls st M → X pc ls st M) (t o : Nat) (M : zM) (h : (kd t = 8) ∧ (o = 1 ∨ o = 10) ∧ ∀ f : Nat → Int32, (∀ j9, j9 < 153 → f j9 = 0) → (∀ j9, 153 ≤ j9 → f j9 = M.1 t o j9) → ∀ M' : zM, (M' = zmw M t o f) → K none M') : X 0 [some (zR t o), none] [] M := by
  obtain ⟨hk, ho, hK⟩ := h
  refine vc_X8_begin_0 hX (up (N := 153) (Q := fun j => ∀ (M1 : zM) (k : Int32), k.toInt = j → (∀ m, m < j → M1.1 t o m = 0) → (∀ m, j ≤ m → M1.1 t o m = M.1 t o m) → M1 = zmw M t o (M1.1 t o) → X 2 [some (zR t o), some (zI k)] [] M1) (fun M1 k hk1 h0 h1 e1 => ?_) (fun j hj ih M1 k hk1 h0 h1 e1 => ?_) 0 (by omega) M 0 rfl (fun m hm => absurd hm (by omega)) (fun m _ => rfl) zmw_sf)
  · exact vc_X8_begin_2 hX ⟨fun _ => hK _ h0 h1 M1 e1, fun q => by simp only [Int32.lt_iff_toInt_lt, Int32.le_iff_toInt_le, ← Int32.toInt_inj, Int32.toInt_add, Int32.toInt_sub, Int32.toInt_mul, Int32.toInt_neg, Int.bmod, Int32.reduceToInt] at q; omega⟩
  · have hkn : k.toNatClampNeg = j := by rw [z_cl]; omega
    have hz : zin (kd t) o 0 k := by
      rcases ho with rfl | rfl
      · exact zin_of (n := 915) (by rw [hk]; rfl) (by omega) (by omega)
      · exact zin_of (n := 153) (by rw [hk]; rfl) (by omega) (by omega)
    refine vc_X8_begin_2 hX ⟨fun q => by simp only [Int32.lt_iff_toInt_lt, Int32.le_iff_toInt_le, ← Int32.toInt_inj, Int32.toInt_add, Int32.toInt_sub, Int32.toInt_mul, Int32.toInt_neg, Int.bmod, Int32.reduceToInt] at q; omega, fun _ => ⟨hz, fun M2 e2 => ?_⟩⟩
    rw [hkn] at e2
    have g2 : M2.1 t o = upd (M1.1 t o) j 0 := by rw [e2, zmw_at]
    refine ih M2 (k + 1) (z_inc hk1 (by omega)) (fun m hm => ?_) (fun m hm => ?_) ?_
    · rw [g2]
      by_cases hmj : m = j
      · subst hmj; rw [upd_at]
      · rw [upd_ne hmj]; exact h0 m (by omega)
    · rw [g2, upd_ne (by omega)]; exact h1 m (by omega)
    · rw [g2, e2]
      conv => lhs; rw [e1]
      rw [zmw_mw]
      rw [← e1]
theorem ms_X8_begin : zMS 1 yX8_begin cX8_begin 2 none sp_X8_begin := by
  intro d hd
  obtain ⟨d', rfl⟩ : ∃ d', d = d' + 1 := ⟨d - 1, by omega⟩
  refine zmethod (tab := tb_X8_begin) (cut := [(2, [])]) (by decide) (tk_X8_begin d' ) ?_
  intro kd as M K h
  unfold sp_X8_begin at h
  split at h
  · rename_i t o
    exact ⟨Nat.le_of_ble_eq_true rfl, fun X hX => mt_X8_begin hX t o M h⟩
  · exact h.elim

set_option maxRecDepth 20000 in
theorem mt_X8_layHand {kd : Nat → Nat} {K : zK} {X : zX} (hX : ∀ (n pc : Nat) (ls : zLS) (st : List zV) (M : zM), zrun (tb_X8_layHand kd K) [(2, [])] n X pc ls st M → X pc ls st M)  (M : zM) (h : (kd 9 = 8) ∧ ∀ f : Nat → Int32, (∀ j9, j9 < 127 → f j9 = M.1 9 1 j9) → ∀ M' : zM, (M' = zmw M 9 5 f) → K none M') : X 0 [some (zR 9 0), none] [] M := by
  obtain ⟨hk, hK⟩ := h
  refine vc_X8_layHand_0 hX (up (N := 127) (Q := fun j => ∀ (M1 : zM) (k : Int32), k.toInt = j → (∀ m, m < j → M1.1 9 5 m = M.1 9 1 m) → (∃ f, M1 = zmw M 9 5 f) → X 2 [some (zR 9 0), some (zI k)] [] M1) (fun M1 k hk1 h0 e1 => ?_) (fun j hj ih M1 k hk1 h0 e1 => ?_) 0 (by omega) M 0 rfl (fun m hm => absurd hm (by omega)) ⟨_, zmw_sf⟩)
  · obtain ⟨f, e1⟩ := e1
    have gf : M1.1 9 5 = f := by rw [e1, zmw_at]
    rw [gf] at h0
    exact vc_X8_layHand_2 hX hk ⟨fun _ => hK f h0 M1 e1, fun q => by simp only [Int32.lt_iff_toInt_lt, Int32.le_iff_toInt_le, ← Int32.toInt_inj, Int32.toInt_add, Int32.toInt_sub, Int32.toInt_mul, Int32.toInt_neg, Int.bmod, Int32.reduceToInt] at q; omega⟩
  · obtain ⟨f, e1⟩ := e1
    have hkn : k.toNatClampNeg = j := by rw [z_cl]; omega
    have g1 : M1.1 9 1 = M.1 9 1 := by rw [e1, zmw_o (by decide)]
    refine vc_X8_layHand_2 hX hk ⟨fun q => by simp only [Int32.lt_iff_toInt_lt, Int32.le_iff_toInt_le, ← Int32.toInt_inj, Int32.toInt_add, Int32.toInt_sub, Int32.toInt_mul, Int32.toInt_neg, Int.bmod, Int32.reduceToInt] at q; omega, fun _ => ⟨zin_of (n := 915) (by rw [hk]; rfl) (by omega) (by omega), zin_of (n := 127) (by rw [hk]; rfl) (by omega) (by omega), fun M2 e2 => ?_⟩⟩
    rw [hkn, g1] at e2
    have g2 : M2.1 9 5 = upd (M1.1 9 5) j (M.1 9 1 j) := by rw [e2, zmw_at]
    refine ih M2 (k + 1) (z_inc hk1 (by omega)) (fun m hm => ?_) ⟨_, by rw [e2, e1, zmw_mw]⟩
    rw [g2]
    by_cases hmj : m = j
    · subst hmj; rw [upd_at]
    · rw [upd_ne hmj]; exact h0 m (by omega)
theorem ms_X8_layHand : zMS 1 yX8_layHand cX8_layHand 2 none sp_X8_layHand := by
  intro d hd
  obtain ⟨d', rfl⟩ : ∃ d', d = d' + 1 := ⟨d - 1, by omega⟩
  refine zmethod (tab := tb_X8_layHand) (cut := [(2, [])]) (by decide) (tk_X8_layHand d' ) ?_
  intro kd as M K h
  unfold sp_X8_layHand at h
  split at h
  · skip
    exact ⟨Nat.le_of_ble_eq_true rfl, fun X hX => mt_X8_layHand hX  M h⟩
  · exact h.elim

set_option maxRecDepth 20000 in
theorem mt_X8_hands {kd : Nat → Nat} {K : zK} {X : zX} (hX : ∀ (n pc : Nat) (ls : zLS) (st : List zV) (M : zM), zrun (tb_X8_hands kd K) [] n X pc ls st M → X pc ls st M) (c : Int32) (i : Int32) (w : Int32) (M : zM) (h : (kd 9 = 8) ∧ ∃ a : Sk, (RpF (M.1 9 5) a) ∧ ∃ l : Ly, (sk_at a c.toInt i.toInt = some l) ∧ (0 ≤ w.toInt ∧ w.toInt < 5) ∧ ∀ v : Int32, (v.toInt = ly_f l w.toInt) → K (some (zI v)) M) : X 0 [some (zR 9 0), some (zI (c)), some (zI (i)), some (zI (w))] [] M := by
  obtain ⟨hk, a, ha, l, hl, hw, hK⟩ := h
  obtain ⟨h0, h1, h2, h3, h4⟩ := sk_at_some hl
  have hb := sk_len_b ha.1 h0 h1
  obtain ⟨n, hn⟩ : ∃ n : Nat, w.toInt = n := ⟨w.toInt.toNat, by omega⟩
  refine vc_X8_hands_0 hX hk ⟨⟨by omega, by omega, by omega, by omega⟩, fun v1 h1 => ⟨zin_of (n := 127) (by rw [hk]; rfl) (by omega) (by omega), hK _ ?_⟩⟩
  rw [hn] at h1 ⊢
  exact ha.ly hl (j := n) (by omega) h1
theorem ms_X8_hands : zMS 2 yX8_hands cX8_hands 4 (some .int) sp_X8_hands := by
  intro d hd
  obtain ⟨d', rfl⟩ : ∃ d', d = d' + 2 := ⟨d - 2, by omega⟩
  refine zmethod (tab := tb_X8_hands) (cut := []) (by decide) (tk_X8_hands d' ms_X8_at) ?_
  intro kd as M K h
  unfold sp_X8_hands at h
  split at h
  · rename_i c i w
    exact ⟨Nat.le_of_ble_eq_true rfl, fun X hX => mt_X8_hands hX c i w M h⟩
  · exact h.elim

theorem ovs_P {o : Option Ly} {w y yr : Int} (ho : ∀ x, o = some x → okLy yr x) : ovP w y o ↔ (ovs o y = -1 ∨ ovs o y < w) := by
  cases o with
  | none => simp [ovP, ovs]
  | some x =>
    have hx := ho x rfl
    unfold okLy at hx
    unfold ovP ovs
    simp only
    by_cases h : y < x.2.2.2.1
    · simp [h]
    · rw [if_neg h]
      by_cases hr : x.2.2.2.2 ≠ -1 ∧ x.2.2.2.2 < y
      · rw [if_pos hr]; omega
      · rw [if_neg hr]; omega
theorem bnd_P {a : Sk} (ha : okSk a) {c i k y : Int} {l : Ly} (hl : sk_at a c i = some l) (hy : 0 ≤ y ∧ y < 1000000) : bnd k l (sk_at a c (i + 1)) y = true ↔ bndP k l (sk_at a c (i + 1)) y := by
  unfold bnd
  rw [decide_eq_true_eq]
  exact bnd_eq (sk_ok_at ha hl) (fun x hx => sk_ok_ov ha hl hx) hy
set_option maxRecDepth 20000 in
theorem mt_X8_overStood {kd : Nat → Nat} {K : zK} {X : zX} (hX : ∀ (n pc : Nat) (ls : zLS) (st : List zV) (M : zM), zrun (tb_X8_overStood kd K) [] n X pc ls st M → X pc ls st M) (c : Int32) (i : Int32) (y : Int32) (M : zM) (h : (kd 9 = 8) ∧ ∃ a : Sk, (RpF (M.1 9 5) a) ∧ (isC c.toInt) ∧ (0 ≤ i.toInt ∧ i.toInt < 4) ∧ (0 ≤ y.toInt ∧ y.toInt < 1000000) ∧ ∀ v : Int32, (v.toInt = ovs (sk_at a c.toInt (i.toInt + 1)) y.toInt) → K (some (zI v)) M) : X 0 [some (zR 9 0), some (zI (c)), some (zI (i)), some (zI (y)), none] [] M := by
  obtain ⟨hk, a, ha, hc, hi, hy, hK⟩ := h
  have hln := ha.len hc
  have hb := sk_len_b ha.1 hc.1 hc.2
  have hi1 : (i + (1 : Int32)).toInt = i.toInt + 1 := by simp only [Int32.lt_iff_toInt_lt, Int32.le_iff_toInt_le, ← Int32.toInt_inj, Int32.toInt_add, Int32.toInt_sub, Int32.toInt_mul, Int32.toInt_neg, Int.bmod, Int32.reduceToInt]; omega
  refine vc_X8_overStood_0 hX hk ?_
  rw [z0a, hi1]
  refine ⟨zin_of (n := 127) (by rw [hk]; rfl) (by omega) (by omega), fun q => hK _ ?_, fun q => ?_⟩
  · rw [Int32.le_iff_toInt_le, hln, hi1] at q
    rw [sk_at_none (by omega)]
    rfl
  · rw [Int32.le_iff_toInt_le, hln, hi1] at q
    obtain ⟨l, hl⟩ := sk_at_of (a := a) (c := c.toInt) (i := i.toInt + 1) ⟨hc.1, hc.2, by omega, by omega⟩
    have hlb := sk_ok_at ha.1 hl
    have hab := ha.1.1
    unfold okLy at hlb
    refine ⟨a, ha, l, hl, by decide, fun v1 h1 => ?_⟩
    have h1' : v1.toInt = l.2.2.2.1 := h1
    rw [hl] at hK
    unfold ovs at hK
    simp only at hK
    refine ⟨fun q1 => ⟨a, ha, l, hl, by decide, fun v2 h2 => ?_⟩, fun q1 => hK _ ?_⟩
    · have h2' : v2.toInt = l.2.2.2.2 := h2
      rw [Int32.le_iff_toInt_le, h1'] at q1
      rw [if_neg (by omega)] at hK
      refine ⟨fun q2 => ⟨a, ha, l, hl, by decide, fun v3 h3 => hK _ ?_⟩, fun q2 => ⟨fun q3 => ⟨a, ha, l, hl, by decide, fun v4 h4 => hK _ ?_⟩, fun q3 => ⟨a, ha, l, hl, by decide, fun v5 h5 => hK _ ?_⟩⟩⟩
      · have h3' : v3.toInt = l.2.2.2.1 := h3
        rw [← Int32.toInt_inj, h2'] at q2
        have q2' : l.2.2.2.2 = -1 := q2
        rw [if_neg (by omega)]
        simp only [Int32.lt_iff_toInt_lt, Int32.le_iff_toInt_le, ← Int32.toInt_inj, Int32.toInt_add, Int32.toInt_sub, Int32.toInt_mul, Int32.toInt_neg, Int.bmod, Int32.reduceToInt]
        omega
      · have h4' : v4.toInt = l.2.2.2.1 := h4
        rw [Int32.le_iff_toInt_le, h2'] at q3
        rw [if_neg (by omega)]
        simp only [Int32.lt_iff_toInt_lt, Int32.le_iff_toInt_le, ← Int32.toInt_inj, Int32.toInt_add, Int32.toInt_sub, Int32.toInt_mul, Int32.toInt_neg, Int.bmod, Int32.reduceToInt]
        omega
      · have h5' : v5.toInt = l.2.2.2.1 := h5
        rw [Int32.le_iff_toInt_le, h2'] at q3
        rw [← Int32.toInt_inj, h2'] at q2
        have q2' : ¬ l.2.2.2.2 = -1 := q2
        rw [if_pos ⟨q2', by omega⟩]
        simp only [Int32.lt_iff_toInt_lt, Int32.le_iff_toInt_le, ← Int32.toInt_inj, Int32.toInt_add, Int32.toInt_sub, Int32.toInt_mul, Int32.toInt_neg, Int.bmod, Int32.reduceToInt]
        omega
    · rw [Int32.le_iff_toInt_le, h1'] at q1
      rw [if_pos (by omega)]
      rfl
theorem ms_X8_overStood : zMS 3 yX8_overStood cX8_overStood 5 (some .int) sp_X8_overStood := by
  intro d hd
  obtain ⟨d', rfl⟩ : ∃ d', d = d' + 3 := ⟨d - 3, by omega⟩
  refine zmethod (tab := tb_X8_overStood) (cut := []) (by decide) (tk_X8_overStood d' ms_X8_hands) ?_
  intro kd as M K h
  unfold sp_X8_overStood at h
  split at h
  · rename_i c i y
    exact ⟨Nat.le_of_ble_eq_true rfl, fun X hX => mt_X8_overStood hX c i y M h⟩
  · exact h.elim

set_option maxRecDepth 20000 in
theorem mt_X8_bindsAs {kd : Nat → Nat} {K : zK} {X : zX} (hX : ∀ (n pc : Nat) (ls : zLS) (st : List zV) (M : zM), zrun (tb_X8_bindsAs kd K) [(107, [8])] n X pc ls st M → X pc ls st M) (c : Int32) (i : Int32) (y : Int32) (k : Int32) (M : zM) (h : (kd 9 = 8) ∧ ∃ a : Sk, (RpF (M.1 9 5) a) ∧ ∃ l : Ly, (sk_at a c.toInt i.toInt = some l) ∧ (0 ≤ y.toInt ∧ y.toInt < 1000000) ∧ ∀ v : Int32, (v = zp (bnd k.toInt l (sk_at a c.toInt (i.toInt + 1)) y.toInt = true)) → K (some (zI v)) M) : X 0 [some (zR 9 0), some (zI (c)), some (zI (i)), some (zI (y)), some (zI (k)), none, none, none, none] [] M := by
  obtain ⟨hk, a, ha, l, hl, hy, hK⟩ := h
  obtain ⟨h0, h1, h2, h3, h4⟩ := sk_at_some hl
  have hb := sk_len_b ha.1 h0 h1
  have hlb := sk_ok_at ha.1 hl
  have hab := ha.1.1
  have hP1 : bndP k.toInt l (sk_at a c.toInt (i.toInt + 1)) y.toInt → K (some (zI 1)) M := fun hb => hK _ (zp_t ((bnd_P ha.1 hl hy).mpr hb)).symm
  have hP0 : ¬ bndP k.toInt l (sk_at a c.toInt (i.toInt + 1)) y.toInt → K (some (zI 0)) M := fun hb => hK _ (zp_f (fun e => hb ((bnd_P ha.1 hl hy).mp e))).symm
  have ki : ∀ n : Int32, ∀ z : Int, n.toInt = z → (k = n ↔ k.toInt = z) := fun n z e => by rw [← Int32.toInt_inj, e]
  unfold okLy at hlb
  have fin : ∀ (r s n : Int32), l.2.2.2.1 ≤ y.toInt → ¬ (l.2.2.2.2 = -1 ∨ y.toInt < l.2.2.2.2) → n.toInt = cntK k.toInt (l.2.2.2.2 - l.2.2.2.1) → X 107 [some (zR 9 0), some (zI c), some (zI i), some (zI y), some (zI k), some (zI r), some (zI s), some (zI n), none] [] M := by
    intro r s n hw hr hn
    have hov := ovs_P (o := sk_at a c.toInt (i.toInt + 1)) (w := cntK k.toInt (l.2.2.2.2 - l.2.2.2.1)) (y := y.toInt) (yr := a.2) (fun x hx => (sk_ok_ov ha.1 hl hx).1)
    refine vc_X8_bindsAs_107 hX hk ⟨a, ha, ⟨h0, h1⟩, by omega, hy, fun v1 hv1 => ⟨fun q => hP0 ?_, fun q => ⟨fun q1 => hP1 ?_, fun q1 => ⟨fun q2 => hP0 ?_, fun q2 => hP1 ?_⟩⟩⟩⟩ <;> unfold bndP <;> rw [if_neg hr]
    · rw [ki 3 3 rfl] at q
      exact fun e => e.2.1 q
    · rw [ki 3 3 rfl] at q
      rw [← Int32.toInt_inj, hv1] at q1
      exact ⟨hw, q, hov.mpr (Or.inl q1)⟩
    · rw [← Int32.toInt_inj, hv1] at q1
      rw [Int32.le_iff_toInt_le, hv1, hn] at q2
      have q1' : ¬ ovs (sk_at a c.toInt (i.toInt + 1)) y.toInt = -1 := q1
      intro e
      rcases hov.mp e.2.2 with e1 | e1
      · exact q1' e1
      · omega
    · rw [ki 3 3 rfl] at q
      rw [Int32.le_iff_toInt_le, hv1, hn] at q2
      exact ⟨hw, q, hov.mpr (Or.inr (by omega))⟩
  refine vc_X8_bindsAs_0 hX hk ⟨a, ha, l, hl, by decide, fun v1 hv1 => ⟨a, ha, l, hl, by decide, fun v2 hv2 => ?_⟩⟩
  have g1 : v1.toInt = l.2.2.2.2 := hv1
  have g2 : v2.toInt = l.2.2.2.1 := hv2
  have stand : l.2.2.2.1 ≤ y.toInt → (l.2.2.2.2 = -1 ∨ y.toInt < l.2.2.2.2) → ((k = (1 : Int32)) → K (some (zI ((0 : Int32)))) M) ∧ ((¬ k = (1 : Int32)) → ((k = (5 : Int32)) → K (some (zI ((0 : Int32)))) M) ∧ ((¬ k = (5 : Int32)) → K (some (zI ((1 : Int32)))) M)) := by
    intro hw hr
    refine ⟨fun q => hP0 ?_, fun q => ⟨fun q2 => hP0 ?_, fun q2 => hP1 ?_⟩⟩ <;> unfold bndP <;> rw [if_pos hr]
    · rw [ki 1 1 rfl] at q; exact fun e => e.2.1 q
    · rw [ki 5 5 rfl] at q2; exact fun e => e.2.2 q2
    · rw [ki 1 1 rfl] at q; rw [ki 5 5 rfl] at q2; exact ⟨hw, q, q2⟩
  refine ⟨fun q => ?_, fun q => hP0 ?_⟩
  · rw [Int32.le_iff_toInt_le, g2] at q
    refine ⟨fun q1 => ?_, fun q1 => ⟨fun q2 => ⟨a, ha, l, hl, by decide, fun v3 hv3 => ?_⟩, fun q2 => ?_⟩⟩
    · rw [← Int32.toInt_inj, g1] at q1
      exact stand q (Or.inl q1)
    · have g3 : v3.toInt = l.2.2.2.1 := hv3
      rw [← Int32.toInt_inj, g1] at q1
      have q1' : ¬ l.2.2.2.2 = -1 := q1
      rw [Int32.le_iff_toInt_le, g1] at q2
      have hs : (v1 - v3).toInt = l.2.2.2.2 - l.2.2.2.1 := by simp only [Int32.lt_iff_toInt_lt, Int32.le_iff_toInt_le, ← Int32.toInt_inj, Int32.toInt_add, Int32.toInt_sub, Int32.toInt_mul, Int32.toInt_neg, Int.bmod, Int32.reduceToInt]; omega
      have hr : ¬ (l.2.2.2.2 = -1 ∨ y.toInt < l.2.2.2.2) := by omega
      refine ⟨fun k2 => ⟨fun k4 => ⟨fun k5 => fin _ _ _ q hr ?_, fun k5 => fin _ _ _ q hr ?_⟩, fun k4 => fin _ _ _ q hr ?_⟩, fun k2 => fin _ _ _ q hr ?_⟩ <;> unfold cntK
      · rw [ki 2 2 rfl] at k2; rw [ki 4 4 rfl] at k4; rw [ki 5 5 rfl] at k5
        rw [if_neg k2, if_neg k4, if_neg k5, hs]
      · rw [ki 2 2 rfl] at k2; rw [ki 4 4 rfl] at k4; rw [ki 5 5 rfl] at k5
        rw [if_neg k2, if_neg k4, if_pos k5, z_add (by rw [hs]; show _ ≤ _ + (3 : Int); omega) (by rw [hs]; show _ + (3 : Int) < _; omega), hs]
        rfl
      · rw [ki 2 2 rfl] at k2; rw [ki 4 4 rfl] at k4
        rw [if_neg k2, if_pos k4, z_mul (by rw [hs]; show _ ≤ (2 : Int) * _; omega) (by rw [hs]; show (2 : Int) * _ < _; omega), hs]
        rfl
      · rw [ki 2 2 rfl] at k2
        rw [if_pos k2, z_div (by omega) (by decide), hs]
        rfl
    · rw [Int32.le_iff_toInt_le, g1] at q2
      exact stand q (Or.inr (by omega))
  · rw [Int32.le_iff_toInt_le, g2] at q
    exact fun e => q e.1
theorem ms_X8_bindsAs : zMS 4 yX8_bindsAs cX8_bindsAs 9 (some .boolean) sp_X8_bindsAs := by
  intro d hd
  obtain ⟨d', rfl⟩ : ∃ d', d = d' + 4 := ⟨d - 4, by omega⟩
  refine zmethod (tab := tb_X8_bindsAs) (cut := [(107, [8])]) (by decide) (tk_X8_bindsAs d' ms_X8_hands ms_X8_overStood) ?_
  intro kd as M K h
  unfold sp_X8_bindsAs at h
  split at h
  · rename_i c i y k
    exact ⟨Nat.le_of_ble_eq_true rfl, fun X hX => mt_X8_bindsAs hX c i y k M h⟩
  · exact h.elim

set_option maxRecDepth 20000 in
theorem mt_X8_bindsNow {kd : Nat → Nat} {K : zK} {X : zX} (hX : ∀ (n pc : Nat) (ls : zLS) (st : List zV) (M : zM), zrun (tb_X8_bindsNow kd K) [] n X pc ls st M → X pc ls st M) (c : Int32) (i : Int32) (y : Int32) (M : zM) (h : (kd 9 = 8) ∧ ∃ a : Sk, (RpF (M.1 9 5) a) ∧ (¬ sk_at a c.toInt i.toInt = none) ∧ (0 ≤ y.toInt ∧ y.toInt < 1000000) ∧ ∀ v : Int32, (v = zp (sk_bd a c.toInt i.toInt y.toInt = true)) → K (some (zI v)) M) : X 0 [some (zR 9 0), some (zI (c)), some (zI (i)), some (zI (y))] [] M := by
  obtain ⟨hk, a, ha, hn, hy, hK⟩ := h
  obtain ⟨l, hl⟩ : ∃ l, sk_at a c.toInt i.toInt = some l := by
    cases e : sk_at a c.toInt i.toInt with
    | none => exact absurd e hn
    | some l => exact ⟨l, rfl⟩
  refine vc_X8_bindsNow_0 hX hk ⟨a, ha, l, hl, by decide, fun v1 h1 => ⟨a, ha, l, hl, hy, fun v2 h2 => ⟨by rw [h2]; exact zp_01, hK v2 ?_⟩⟩⟩
  have h1' : v1.toInt = l.1 := h1
  rw [h2, h1']
  unfold sk_bd
  rw [hl]
theorem ms_X8_bindsNow : zMS 5 yX8_bindsNow cX8_bindsNow 4 (some .boolean) sp_X8_bindsNow := by
  intro d hd
  obtain ⟨d', rfl⟩ : ∃ d', d = d' + 5 := ⟨d - 5, by omega⟩
  refine zmethod (tab := tb_X8_bindsNow) (cut := []) (by decide) (tk_X8_bindsNow d' ms_X8_hands ms_X8_bindsAs) ?_
  intro kd as M K h
  unfold sp_X8_bindsNow at h
  split at h
  · rename_i c i y
    exact ⟨Nat.le_of_ble_eq_true rfl, fun X hX => mt_X8_bindsNow hX c i y M h⟩
  · exact h.elim

