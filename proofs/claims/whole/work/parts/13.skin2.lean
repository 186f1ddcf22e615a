theorem z_rem {d m : Int32} (hd : 0 ≤ d.toInt) (hm : 0 < m.toInt) : (d - d / m * m).toInt = d.toInt % m.toInt := by
  have hd2 := z_rng d
  have h1 := z_div hd hm
  have h2 : 0 ≤ d.toInt / m.toInt := Int.ediv_nonneg hd (by omega)
  have h3 : 0 ≤ m.toInt * (d.toInt / m.toInt) := Int.mul_nonneg (by omega) h2
  have h4 := Int.emod_add_mul_ediv d.toInt m.toInt
  have h5 := Int.emod_nonneg d.toInt (show m.toInt ≠ 0 by omega)
  have h6 : (d / m).toInt * m.toInt = m.toInt * (d.toInt / m.toInt) := by rw [h1, Int.mul_comm]
  have h7 : (d / m * m).toInt = m.toInt * (d.toInt / m.toInt) := by rw [z_mul (by omega) (by omega), h6]
  rw [z_sub (by omega) (by omega), h7]
  omega
theorem RpS.setr {S S' : zB} {a b : Sk} (h : RpS S a) (hb : okSk b) (hy : b.2 = a.2) {c i0 : Nat} (hi0 : i0 < 4) (hl : ∀ c', c' < 6 → (b.1 c').length = (a.1 c').length)
    (hs : ∀ c', c' < 6 → ∀ (i : Nat) (l : Ly), (b.1 c')[i]? = some l → ∃ l', (a.1 c')[i]? = some l' ∧ l'.1 = l.1 ∧ l'.2.1 = l.2.1 ∧ l'.2.2.1 = l.2.2.1 ∧ l'.2.2.2.1 = l.2.2.2.1 ∧ (¬ (c' = c ∧ i = i0) → l'.2.2.2.2 = l.2.2.2.2) ∧ ((c' = c ∧ i = i0) → (S' 6 (4 * c + i0)).toInt = l.2.2.2.2))
    (h6 : ∀ q, q ≠ 4 * c + i0 → S' 6 q = S 6 q) (ho : ∀ o, o ≠ 6 → S' o = S o) : RpS S' b := by
  refine ⟨hb, fun c' hc' => ⟨?_, fun i l hli => ?_⟩, by rw [ho 0 (by omega), hy]; exact h.2.2⟩
  · rw [ho 1 (by omega), hl c' hc']; exact (h.2.1 c' hc').1
  · obtain ⟨l', g0, g1, g2, g3, g4, g5, g6⟩ := hs c' hc' i l hli
    obtain ⟨q1, q2, q3, q4, q5⟩ := (h.2.1 c' hc').2 i l' g0
    have hi4 : i < 4 := by
      have := (List.getElem?_eq_some_iff.mp hli).1
      have := (hb.2 c' hc').1
      omega
    refine ⟨by rw [ho 2 (by omega), q1, g1], by rw [ho 3 (by omega), q2, g2], by rw [ho 4 (by omega), q3, g3], by rw [ho 5 (by omega), q4, g4], ?_⟩
    by_cases hci : c' = c ∧ i = i0
    · rw [hci.1, hci.2]; exact g6 hci
    · rw [h6 _ (by omega), q5]; exact g5 hci
set_option maxRecDepth 20000 in
theorem mt_X3_scrape {kd : Nat → Nat} {K : zK} {X : zX} (hX : ∀ (n pc : Nat) (ls : zLS) (st : List zV) (M : zM), zrun (tb_X3_scrape kd K) [] n X pc ls st M → X pc ls st M) (t : Nat) (c : Int32) (M : zM) (h : (kd t = 3) ∧ ∃ a : Sk, (RpS (M.1 t) a) ∧ ∃ l : Ly, (sk_top a c.toInt = some l) ∧ (l.2.2.2.2 = -1) ∧ ∀ v : Int32, (v.toInt = a.2 - l.2.2.2.1) → ∀ S' : zB, (RpS S' (sk_rub a c.toInt)) → ∀ M' : zM, (M' = zbs M t S') → K (some (zI v)) M') : X 0 [some (zR t 0), some (zI (c)), none] [] M := by
  obtain ⟨hk, a, ha, l, hl, hr, hK⟩ := h
  refine vc_X3_scrape_0 hX hk ⟨a, ha, fun v1 hv1 => ?_⟩
  rcases sk_topq hv1 with ⟨e1, e2⟩ | ⟨e1, l', e2, e3, e4⟩
  · rw [hl] at e2; cases e2
  · rw [hl] at e2; cases e2
    have hb := sk_len_b ha.1 e3.1 e3.2.1
    obtain ⟨-, -, -, hw, hr'⟩ := ha.top hl e4
    have hok := sk_ok_at ha.1 (by rw [← sk_top_at]; exact hl)
    have hyr := ha.1.1
    obtain ⟨-, -, -, hwb, -⟩ := hok
    refine ⟨fun q => absurd q e1, fun _ => ⟨zin_of (by rw [hk]; rfl) (by omega) (by omega), fun _ => ⟨zin_of (by rw [hk]; rfl) (by omega) (by omega), fun M2 e5 => ⟨zin_of (by rw [hk]; rfl) (by omega) (by omega), ?_⟩⟩, fun q => ?_⟩⟩
    · have hM0 : M2.1 t 0 6 = M.1 t 0 6 := by rw [e5, zmw_bs, zbs_at, zrw_ne (by omega)]
      have hM5 : M2.1 t 5 = M.1 t 5 := by rw [e5, zmw_bs, zbs_at, zrw_ne (by omega)]
      have hM0' := ha.2.2
      refine hK _ ?_ (M2.1 t) ?_ M2 ?_
      · rw [hM0, hM5]; simp only [Int32.lt_iff_toInt_lt, Int32.le_iff_toInt_le, ← Int32.toInt_inj, Int32.toInt_add, Int32.toInt_sub, Int32.toInt_mul, Int32.toInt_neg, Int.bmod, Int32.reduceToInt]; rw [hM0', hw]; omega
      · obtain ⟨cn, hc2⟩ : ∃ cn : Nat, c.toInt = cn := ⟨c.toInt.toNat, by omega⟩
        rw [hc2] at hl e3 e4 ⊢
        have hlc : sk_len a cn = ((a.1 cn).length : Int) := rfl
        obtain ⟨sn, hs1, hs2⟩ : ∃ sn : Nat, v1.toNatClampNeg = sn ∧ sn = 4 * cn + ((a.1 cn).length - 1) := ⟨v1.toInt.toNat, rfl, by omega⟩
        have hg := (sk_top_get hl).2.2
        rw [Int.toNat_natCast] at hg
        have hlt := (List.getElem?_eq_some_iff.mp hg).1
        refine ha.setr (c := cn) (i0 := (a.1 cn).length - 1) (sk_rub_ok ha.1 hl) (by rw [sk_rub_eq hl]; rfl) (by omega) (fun c' hc' => ?_) (fun c' hc' i x hx => ?_) (fun q hq => ?_) (fun o ho => ?_)
        · rw [sk_rub_eq hl]
          show (if c' = (cn : Int).toNat then _ else a.1 c').length = _
          split
          · rename_i e; rw [List.length_set, e]
          · rfl
        · rw [sk_rub_eq hl] at hx
          change (if c' = (cn : Int).toNat then _ else a.1 c')[i]? = some x at hx
          rw [Int.toNat_natCast] at hx
          split at hx
          · rename_i e
            subst e
            by_cases hi : (a.1 c').length - 1 = i
            · subst hi
              rw [List.getElem?_set_self hlt] at hx
              cases hx
              refine ⟨l, hg, rfl, rfl, rfl, rfl, fun q => absurd ⟨rfl, rfl⟩ q, fun _ => ?_⟩
              rw [e5, zmw_bs, zbs_at, zrw_at, hs1, ← hs2]
              simp [upd, hM0']
            · rw [List.getElem?_set_ne hi] at hx
              exact ⟨x, hx, rfl, rfl, rfl, rfl, fun _ => rfl, fun q => absurd q.2.symm hi⟩
          · rename_i e
            exact ⟨x, hx, rfl, rfl, rfl, rfl, fun _ => rfl, fun q => absurd q.1 e⟩
        · rw [e5, zmw_bs, zbs_at, zrw_at, hs1]
          rw [← hs2] at hq
          simp [upd, hq]
        · rw [e5, zmw_bs, zbs_at, zrw_ne ho]
      · rw [e5, zmw_bs, zbs_at]
    · exact absurd (Int32.toInt_inj.mp (by rw [hr', hr]; rfl)) q
theorem ms_X3_scrape : zMS 3 yX3_scrape cX3_scrape 3 (some .int) sp_X3_scrape := by
  intro d hd
  obtain ⟨d', rfl⟩ : ∃ d', d = d' + 3 := ⟨d - 3, by omega⟩
  refine zmethod (tab := tb_X3_scrape) (cut := []) (by decide) (tk_X3_scrape d' ms_X3_topmost) ?_
  intro kd as M K h
  unfold sp_X3_scrape at h
  split at h
  · rename_i t c
    exact ⟨Nat.le_of_ble_eq_true rfl, fun X hX => mt_X3_scrape hX t c M h⟩
  · exact h.elim

set_option maxRecDepth 20000 in
theorem mt_X3_pass {kd : Nat → Nat} {K : zK} {X : zX} (hX : ∀ (n pc : Nat) (ls : zLS) (st : List zV) (M : zM), zrun (tb_X3_pass kd K) [] n X pc ls st M → X pc ls st M) (t : Nat) (n : Int32) (M : zM) (h : (kd t = 3) ∧ ∃ a : Sk, (RpS (M.1 t) a) ∧ (0 ≤ n.toInt ∧ n.toInt ≤ 99) ∧ ∀ S' : zB, (RpS S' (sk_yr a n.toInt)) → ∀ M' : zM, (M' = zbs M t S') → K none M') : X 0 [some (zR t 0), some (zI (n))] [] M := by
  obtain ⟨hk, a, ha, hn, hK⟩ := h
  refine vc_X3_pass_0 hX hk (fun M1 e1 => hK (M1.1 t) ?_ M1 (by rw [e1, zmw_bs, zbs_at]))
  rw [e1, zmw_bs, zbs_at]
  refine ⟨sk_yr_ok ha.1 hn.1, fun c hc => ?_, ?_⟩
  · exact ha.2.1 c hc
  · rw [zrw_at]
    have hy := ha.2.2
    have h1 := ha.1.1
    have e : ((M.1 t 0 6) + n).toInt = a.2 + n.toInt := by simp only [Int32.lt_iff_toInt_lt, Int32.le_iff_toInt_le, ← Int32.toInt_inj, Int32.toInt_add, Int32.toInt_sub, Int32.toInt_mul, Int32.toInt_neg, Int.bmod, Int32.reduceToInt]; omega
    unfold sk_yr
    simp [upd]
    simp only [Int32.lt_iff_toInt_lt]
    rw [e]
    split <;> split
    · simp at *; omega
    · exact e
    · rfl
    · simp at *; omega
theorem ms_X3_pass : zMS 1 yX3_pass cX3_pass 2 none sp_X3_pass := by
  intro d hd
  obtain ⟨d', rfl⟩ : ∃ d', d = d' + 1 := ⟨d - 1, by omega⟩
  refine zmethod (tab := tb_X3_pass) (cut := []) (by decide) (tk_X3_pass d' ) ?_
  intro kd as M K h
  unfold sp_X3_pass at h
  split at h
  · rename_i t n
    exact ⟨Nat.le_of_ble_eq_true rfl, fun X hX => mt_X3_pass hX t n M h⟩
  · exact h.elim

set_option maxRecDepth 20000 in
theorem mt_X3_canDo {kd : Nat → Nat} {K : zK} {X : zX} (hX : ∀ (n pc : Nat) (ls : zLS) (st : List zV) (M : zM), zrun (tb_X3_canDo kd K) [] n X pc ls st M → X pc ls st M) (t : Nat) (w : Int32) (M : zM) (h : (kd t = 3) ∧ ∃ a : Sk, (RpS (M.1 t) a) ∧ (0 ≤ w.toInt ∧ w.toInt < 20) ∧ ∀ v : Int32, (v = zp (sk_may a w.toInt = true)) → K (some (zI v)) M) : X 0 [some (zR t 0), some (zI (w))] [] M := by
  obtain ⟨hk, a, ha, hw, hK⟩ := h
  have e : (w - (10 : Int32)).toInt = w.toInt - 10 := by simp only [Int32.lt_iff_toInt_lt, Int32.le_iff_toInt_le, ← Int32.toInt_inj, Int32.toInt_add, Int32.toInt_sub, Int32.toInt_mul, Int32.toInt_neg, Int.bmod, Int32.reduceToInt]; omega
  refine vc_X3_canDo_0 hX hk ⟨fun q => ⟨a, ha, fun v1 hv1 => ⟨by rw [hv1]; exact zp_01, hK _ ?_⟩⟩, fun q => ⟨a, ha, fun v1 hv1 => ⟨by rw [hv1]; exact zp_01, hK _ ?_⟩⟩⟩
  · rw [hv1, e]
    simp only [Int32.lt_iff_toInt_lt, Int32.le_iff_toInt_le, ← Int32.toInt_inj, Int32.toInt_add, Int32.toInt_sub, Int32.toInt_mul, Int32.toInt_neg, Int.bmod, Int32.reduceToInt] at q
    unfold sk_may
    exact zp_i (by rw [if_neg (by omega)])
  · rw [hv1]
    simp only [Int32.lt_iff_toInt_lt, Int32.le_iff_toInt_le, ← Int32.toInt_inj, Int32.toInt_add, Int32.toInt_sub, Int32.toInt_mul, Int32.toInt_neg, Int.bmod, Int32.reduceToInt] at q
    unfold sk_may
    exact zp_i (by rw [if_pos (by omega)])
theorem ms_X3_canDo : zMS 4 yX3_canDo cX3_canDo 2 (some .boolean) sp_X3_canDo := by
  intro d hd
  obtain ⟨d', rfl⟩ : ∃ d', d = d' + 4 := ⟨d - 4, by omega⟩
  refine zmethod (tab := tb_X3_canDo) (cut := []) (by decide) (tk_X3_canDo d' ms_X3_canScrape ms_X3_canCover) ?_
  intro kd as M K h
  unfold sp_X3_canDo at h
  split at h
  · rename_i t w
    exact ⟨Nat.le_of_ble_eq_true rfl, fun X hX => mt_X3_canDo hX t w M h⟩
  · exact h.elim

set_option maxRecDepth 20000 in
theorem mt_X3_act {kd : Nat → Nat} {K : zK} {X : zX} (hX : ∀ (n pc : Nat) (ls : zLS) (st : List zV) (M : zM), zrun (tb_X3_act kd K) [] n X pc ls st M → X pc ls st M) (t : Nat) (w : Int32) (g : Int32) (e : Int32) (M : zM) (h : (kd t = 3) ∧ ∃ a : Sk, (RpS (M.1 t) a) ∧ (0 ≤ w.toInt ∧ w.toInt < 20) ∧ (sk_may a w.toInt = true) ∧ (0 ≤ g.toInt ∧ g.toInt ≤ 4) ∧ (e.toInt = 0 ∨ e.toInt = 1) ∧ ∀ S' : zB, (RpS S' (sk_do a w.toInt g.toInt e.toInt)) → ∀ M' : zM, (M' = zbs M t S') → K none M') : X 0 [some (zR t 0), some (zI (w)), some (zI (g)), some (zI (e))] [] M := by
  obtain ⟨hk, a, ha, hw, hm, hg, he, hK⟩ := h
  have e9 : (w - (10 : Int32)).toInt = w.toInt - 10 := by simp only [Int32.lt_iff_toInt_lt, Int32.le_iff_toInt_le, ← Int32.toInt_inj, Int32.toInt_add, Int32.toInt_sub, Int32.toInt_mul, Int32.toInt_neg, Int.bmod, Int32.reduceToInt]; omega
  refine vc_X3_act_0 hX hk ⟨fun q => ?_, fun q => ?_⟩
  · simp only [Int32.lt_iff_toInt_lt, Int32.le_iff_toInt_le, ← Int32.toInt_inj, Int32.toInt_add, Int32.toInt_sub, Int32.toInt_mul, Int32.toInt_neg, Int.bmod, Int32.reduceToInt] at q
    unfold sk_may at hm
    rw [if_neg (by omega)] at hm
    obtain ⟨h1, h2, h3⟩ := sk_canW_iff.mp hm
    refine ⟨a, ha, by omega, by rw [e9]; exact h2, by decide, hg, he, fun v1 hv1 S1 hS1 M1 hM1 => hK S1 ?_ M1 hM1⟩
    unfold sk_do
    rw [if_neg (by omega), ← e9]
    exact hS1
  · simp only [Int32.lt_iff_toInt_lt, Int32.le_iff_toInt_le, ← Int32.toInt_inj, Int32.toInt_add, Int32.toInt_sub, Int32.toInt_mul, Int32.toInt_neg, Int.bmod, Int32.reduceToInt] at q
    unfold sk_may at hm
    rw [if_pos (by omega)] at hm
    obtain ⟨l, h1, h2⟩ := sk_canR_iff.mp hm
    refine ⟨a, ha, l, h1, h2, fun v1 hv1 S1 hS1 M1 hM1 => hK S1 ?_ M1 hM1⟩
    unfold sk_do
    rw [if_pos (by omega)]
    exact hS1
theorem ms_X3_act : zMS 4 yX3_act cX3_act 4 none sp_X3_act := by
  intro d hd
  obtain ⟨d', rfl⟩ : ∃ d', d = d' + 4 := ⟨d - 4, by omega⟩
  refine zmethod (tab := tb_X3_act) (cut := []) (by decide) (tk_X3_act d' ms_X3_scrape ms_X3_cover) ?_
  intro kd as M K h
  unfold sp_X3_act at h
  split at h
  · rename_i t w g e
    exact ⟨Nat.le_of_ble_eq_true rfl, fun X hX => mt_X3_act hX t w g e M h⟩
  · exact h.elim

set_option maxRecDepth 20000 in
theorem mt_X3_takeBack {kd : Nat → Nat} {K : zK} {X : zX} (hX : ∀ (n pc : Nat) (ls : zLS) (st : List zV) (M : zM), zrun (tb_X3_takeBack kd K) [] n X pc ls st M → X pc ls st M) (t : Nat) (w : Int32) (M : zM) (h : (kd t = 3) ∧ ∃ a : Sk, (RpS (M.1 t) a) ∧ ∃ b : Sk, (okSk b) ∧ (0 ≤ w.toInt ∧ w.toInt < 20) ∧ (sk_aft b w.toInt a) ∧ ∀ S' : zB, (RpS S' (b)) → ∀ M' : zM, (M' = zbs M t S') → K none M') : X 0 [some (zR t 0), some (zI (w)), none, none] [] M := by
  obtain ⟨hk, a, ha, b, hb, hw, haf, hK⟩ := h
  have e9 : (w - (10 : Int32)).toInt = w.toInt - 10 := by simp only [Int32.lt_iff_toInt_lt, Int32.le_iff_toInt_le, ← Int32.toInt_inj, Int32.toInt_add, Int32.toInt_sub, Int32.toInt_mul, Int32.toInt_neg, Int.bmod, Int32.reduceToInt]; omega
  refine vc_X3_takeBack_0 hX hk (fun v1 hv1 => ⟨a, ha, fun v2 hv2 => ?_⟩)
  unfold sk_aft at haf
  by_cases h10 : w.toInt < 10
  · rw [if_pos h10] at haf
    have ew : w < 10 := by simp only [Int32.lt_iff_toInt_lt, Int32.le_iff_toInt_le, ← Int32.toInt_inj, Int32.toInt_add, Int32.toInt_sub, Int32.toInt_mul, Int32.toInt_neg, Int.bmod, Int32.reduceToInt]; exact h10
    rw [if_pos ew] at hv1
    subst hv1
    obtain ⟨hcr, rfl⟩ := haf
    obtain ⟨l, h1, h2⟩ := sk_canR_iff.mp hcr
    obtain ⟨g1, g2, g3⟩ := sk_top_get h1
    obtain ⟨cn, hc2⟩ : ∃ cn : Nat, v1.toInt = cn := ⟨v1.toInt.toNat, by omega⟩
    rw [hc2] at h1 g3
    rw [Int.toNat_natCast] at g3
    have hlt := (List.getElem?_eq_some_iff.mp g3).1
    have hb4 := (hb.2 cn (by omega)).1
    have hlen : ∀ c', ((sk_rub b v1.toInt).1 c').length = (b.1 c').length := fun c' => by
      rw [hc2, sk_rub_eq h1]
      show (if c' = (cn : Int).toNat then _ else b.1 c').length = _
      split
      · rename_i e; rw [List.length_set, e]
      · rfl
    rcases sk_topq hv2 with ⟨e1, e2⟩ | ⟨e1, l', e2, e3, e4⟩
    · have h0 : (sk_top (sk_rub b v1.toInt) v1.toInt).isSome = true := sk_top_iff.mpr ⟨by omega, by omega, by unfold sk_len; rw [hlen, hc2, Int.toNat_natCast]; omega⟩
      rw [e2] at h0
      cases h0
    · refine ⟨fun _ => ⟨fun q => ?_, fun _ => ⟨zin_of (by rw [hk]; rfl) (by omega) (by have := sk_len_b ha.1 e3.1 e3.2.1; omega), fun M4 e5 => ?_⟩⟩, fun q => absurd q e1⟩
      · simp only [Int32.lt_iff_toInt_lt, Int32.le_iff_toInt_le, ← Int32.toInt_inj, Int32.toInt_add, Int32.toInt_sub, Int32.toInt_mul, Int32.toInt_neg, Int.bmod, Int32.reduceToInt] at q; omega
      · have hsl : sk_len (sk_rub b v1.toInt) v1.toInt = ((b.1 cn).length : Int) := by unfold sk_len; rw [hlen, hc2, Int.toNat_natCast]
        obtain ⟨sn, hs1, hs2⟩ : ∃ sn : Nat, v2.toNatClampNeg = sn ∧ sn = 4 * cn + ((b.1 cn).length - 1) := ⟨v2.toInt.toNat, rfl, by omega⟩
        refine hK (M4.1 t) ?_ M4 (by rw [e5, zmw_bs, zbs_at])
        refine ha.setr (c := cn) (i0 := (b.1 cn).length - 1) hb (by rw [hc2, sk_rub_eq h1]; rfl) (by omega) (fun c' _ => (hlen c').symm) (fun c' hc' i x hx => ?_) (fun q hq => ?_) (fun o ho => ?_)
        · rw [hc2, sk_rub_eq h1]
          show ∃ l', (if c' = (cn : Int).toNat then _ else b.1 c')[i]? = some l' ∧ _
          rw [Int.toNat_natCast]
          by_cases e : c' = cn
          · subst e
            rw [if_pos rfl]
            by_cases hi : (b.1 c').length - 1 = i
            · subst hi
              rw [g3] at hx
              cases hx
              refine ⟨_, List.getElem?_set_self hlt, rfl, rfl, rfl, rfl, fun q => absurd ⟨rfl, rfl⟩ q, fun _ => ?_⟩
              rw [e5, zmw_bs, zbs_at, zrw_at, hs1, ← hs2]
              simp [upd, h2]
            · exact ⟨x, by rw [List.getElem?_set_ne hi]; exact hx, rfl, rfl, rfl, rfl, fun _ => rfl, fun q => absurd q.2.symm hi⟩
          · rw [if_neg e]
            exact ⟨x, hx, rfl, rfl, rfl, rfl, fun _ => rfl, fun q => absurd q.1 e⟩
        · rw [e5, zmw_bs, zbs_at, zrw_at, hs1]
          rw [← hs2] at hq
          simp [upd, hq]
        · rw [e5, zmw_bs, zbs_at, zrw_ne ho]
  · rw [if_neg h10] at haf
    have ew : ¬ w < 10 := by simp only [Int32.lt_iff_toInt_lt, Int32.le_iff_toInt_le, ← Int32.toInt_inj, Int32.toInt_add, Int32.toInt_sub, Int32.toInt_mul, Int32.toInt_neg, Int.bmod, Int32.reduceToInt]; exact h10
    rw [if_neg ew] at hv1
    obtain ⟨hc, hlen, k, th, le, rfl⟩ := haf
    rw [← e9, ← hv1] at hc hlen ha hv2
    obtain ⟨cn, hc1, hc2⟩ : ∃ cn : Nat, v1.toNatClampNeg = cn ∧ v1.toInt = cn := ⟨v1.toInt.toNat, rfl, by omega⟩
    have hbl : sk_len b v1.toInt = ((b.1 cn).length : Int) := by rw [hc2]; rfl
    have ea : sk_wr b v1.toInt k th le = sk_upd b cn (b.1 cn ++ [(k, th, le, b.2, -1)]) := by unfold sk_wr; rw [if_pos hlen, hc2, Int.toNat_natCast]
    rw [ea] at ha hv2
    have hcc : (sk_upd b cn (b.1 cn ++ [(k, th, le, b.2, -1)])).1 cn = b.1 cn ++ [(k, th, le, b.2, -1)] := by simp [sk_upd]
    rcases sk_topq hv2 with ⟨e1, e2⟩ | ⟨e1, l', e2, e3, e4⟩
    · have h0 := sk_top_iff (a := sk_upd b cn (b.1 cn ++ [(k, th, le, b.2, -1)])) (c := v1.toInt)
      rw [e2] at h0
      simp [sk_len, hc2, hcc] at h0
      omega
    · refine ⟨fun _ => ⟨fun _ => ⟨zin_of (by rw [hk]; rfl) (by omega) (by omega), zin_of (by rw [hk]; rfl) (by omega) (by omega), fun M3 e5 => hK (M3.1 t) ?_ M3 (by rw [e5, zmw_bs, zbs_at])⟩, fun q => ?_⟩, fun q => absurd q e1⟩
      · rw [e5, zmw_bs, zbs_at, hc1]
        have hh := (ha.2.1 cn (by omega)).1
        rw [hcc, List.length_append] at hh
        simp at hh
        have hb4 := (hb.2 cn (by omega)).1
        refine ⟨hb, fun c' hc' => ⟨?_, fun i l hl => ?_⟩, ?_⟩
        · rw [zrw_at]
          by_cases e : c' = cn
          · subst e
            simp [upd]
            simp only [Int32.lt_iff_toInt_lt, Int32.le_iff_toInt_le, ← Int32.toInt_inj, Int32.toInt_add, Int32.toInt_sub, Int32.toInt_mul, Int32.toInt_neg, Int.bmod, Int32.reduceToInt]
            omega
          · have := (ha.2.1 c' hc').1
            simp [upd, e]
            simp [sk_upd, e] at this
            exact this
        · have := (ha.2.1 c' hc').2 i l (by
            by_cases e : c' = cn
            · subst e; rw [hcc, List.getElem?_append_left (List.getElem?_eq_some_iff.mp hl).1]; exact hl
            · simp [sk_upd, e]; exact hl)
          exact this
        · rw [zrw_ne (by omega)]; exact ha.2.2
      · simp only [Int32.lt_iff_toInt_lt, Int32.le_iff_toInt_le, ← Int32.toInt_inj, Int32.toInt_add, Int32.toInt_sub, Int32.toInt_mul, Int32.toInt_neg, Int.bmod, Int32.reduceToInt] at q; omega
theorem ms_X3_takeBack : zMS 3 yX3_takeBack cX3_takeBack 4 none sp_X3_takeBack := by
  intro d hd
  obtain ⟨d', rfl⟩ : ∃ d', d = d' + 3 := ⟨d - 3, by omega⟩
  refine zmethod (tab := tb_X3_takeBack) (cut := []) (by decide) (tk_X3_takeBack d' ms_X7_cellOf ms_X3_topmost) ?_
  intro kd as M K h
  unfold sp_X3_takeBack at h
  split at h
  · rename_i t w
    exact ⟨Nat.le_of_ble_eq_true rfl, fun X hX => mt_X3_takeBack hX t w M h⟩
  · exact h.elim

set_option maxRecDepth 20000 in
theorem mt_X3_chance {kd : Nat → Nat} {K : zK} {X : zX} (hX : ∀ (n pc : Nat) (ls : zLS) (st : List zV) (M : zM), zrun (tb_X3_chance kd K) [] n X pc ls st M → X pc ls st M) (t : Nat) (d : Int32) (M : zM) (h : (kd t = 3) ∧ ∃ a : Sk, (RpS (M.1 t) a) ∧ (0 ≤ d.toInt) ∧ ∀ S' : zB, (RpS S' (sk_ch a d.toInt)) → ∀ M' : zM, (M' = zbs M t S') → K none M') : X 0 [some (zR t 0), some (zI (d)), none, none] [] M := by
  obtain ⟨hk, a, ha, hd, hK⟩ := h
  have hd2 := z_rng d
  have rm : ∀ m : Int32, 0 < m.toInt → (d - d / m * m).toInt = d.toInt % m.toInt := fun m hm => z_rem hd hm
  have e6 : (d - d / (6 : Int32) * (6 : Int32)).toInt = d.toInt % 6 := rm 6 (by decide)
  have e7 : (d - d / (7 : Int32) * (7 : Int32)).toInt = d.toInt % 7 := rm 7 (by decide)
  have e5 : (d - d / (5 : Int32) * (5 : Int32)).toInt = d.toInt % 5 := rm 5 (by decide)
  have e2 : (d - d / (2 : Int32) * (2 : Int32)).toInt = d.toInt % 2 := rm 2 (by decide)
  refine vc_X3_chance_0 hX hk ⟨a, ha, fun v1 hv1 => ⟨fun q => ?_, fun q => ?_⟩⟩
  · rw [hv1, zp_0, e6] at q
    have q' : sk_canR a (d.toInt % 6) = false := by simpa using q
    rw [e6, e7, e5, e2]
    refine ⟨fun h7 => ⟨a, ha, by omega, q', ?_, by omega, by omega, fun v2 hv2 S2 hS2 M2 hM2 => hK S2 ?_ M2 hM2⟩, fun h7 => ⟨a, ha, by omega, q', by decide, by omega, by omega, fun v2 hv2 S2 hS2 M2 hM2 => hK S2 ?_ M2 hM2⟩⟩
    · rw [← Int32.toInt_inj, e7] at h7
      have h7' : ¬ d.toInt % 7 = 6 := h7
      omega
    · rw [← Int32.toInt_inj, e7] at h7
      have h7' : ¬ d.toInt % 7 = 6 := h7
      unfold sk_ch
      rw [q', if_neg h7']
      exact hS2
    · rw [← Int32.toInt_inj, e7] at h7
      have h7' : d.toInt % 7 = 6 := h7
      unfold sk_ch
      rw [q', if_pos h7']
      exact hS2
  · rw [hv1, zp_n, e6] at q
    obtain ⟨l, h1, h2⟩ := sk_canR_iff.mp q
    rw [e6]
    refine ⟨a, ha, l, h1, h2, fun v2 hv2 S2 hS2 M2 hM2 => hK S2 ?_ M2 hM2⟩
    unfold sk_ch
    rw [q]
    exact hS2
theorem ms_X3_chance : zMS 4 yX3_chance cX3_chance 4 none sp_X3_chance := by
  intro d hd
  obtain ⟨d', rfl⟩ : ∃ d', d = d' + 4 := ⟨d - 4, by omega⟩
  refine zmethod (tab := tb_X3_chance) (cut := []) (by decide) (tk_X3_chance d' ms_X3_canScrape ms_X3_scrape ms_X3_cover) ?_
  intro kd as M K h
  unfold sp_X3_chance at h
  split at h
  · rename_i t d
    exact ⟨Nat.le_of_ble_eq_true rfl, fun X hX => mt_X3_chance hX t d M h⟩
  · exact h.elim

set_option maxRecDepth 20000 in
theorem mt_X3_wipe {kd : Nat → Nat} {K : zK} {X : zX} (hX : ∀ (n pc : Nat) (ls : zLS) (st : List zV) (M : zM), zrun (tb_X3_wipe kd K) [(7, [])] n X pc ls st M → X pc ls st M) (t : Nat) (M : zM) (h : (kd t = 3) ∧ ∀ S' : zB, (RpS S' (sk_0)) → ∀ M' : zM, (M' = zbs M t S') → K none M') : X 0 [some (zR t 0), none] [] M := by
  obtain ⟨hk, hK⟩ := h
  have loop : ∀ (n : Nat) (c : Int32) (S : zB), c.toInt + n = 6 → 0 ≤ c.toInt → S 0 6 = 0 → (∀ c' : Nat, (c' : Int) < c.toInt → S 1 c' = 0) → X 7 [some (zR t 0), some (zI c)] [] (zbs M t S) := by
    intro n
    induction n with
    | zero =>
      intro c S h1 h2 h3 h4
      refine vc_X3_wipe_7 hX hk ⟨fun _ => hK S ⟨ok_sk0, fun c' hc' => ⟨?_, fun i l hl => ?_⟩, ?_⟩ _ rfl, fun q => ?_⟩
      · rw [h4 c' (by omega)]; rfl
      · simp [sk_0] at hl
      · rw [h3]; rfl
      · simp only [Int32.lt_iff_toInt_lt, Int32.le_iff_toInt_le, ← Int32.toInt_inj, Int32.toInt_add, Int32.toInt_sub, Int32.toInt_mul, Int32.toInt_neg, Int.bmod, Int32.reduceToInt] at q; omega
    | succ n ih =>
      intro c S h1 h2 h3 h4
      refine vc_X3_wipe_7 hX hk ⟨fun q => ?_, fun q => ⟨zin_of (by rw [hk]; rfl) (by omega) (by omega), fun M1 e1 => ?_⟩⟩
      · simp only [Int32.lt_iff_toInt_lt, Int32.le_iff_toInt_le, ← Int32.toInt_inj, Int32.toInt_add, Int32.toInt_sub, Int32.toInt_mul, Int32.toInt_neg, Int.bmod, Int32.reduceToInt] at q; omega
      · rw [e1, zmw_bs, zbs_at, zbs_bs]
        have ec : (c + 1).toInt = c.toInt + 1 := by simp only [Int32.lt_iff_toInt_lt, Int32.le_iff_toInt_le, ← Int32.toInt_inj, Int32.toInt_add, Int32.toInt_sub, Int32.toInt_mul, Int32.toInt_neg, Int.bmod, Int32.reduceToInt]; omega
        refine ih (c + 1) _ (by omega) (by omega) (by rw [zrw_ne (by omega)]; exact h3) (fun c' hc' => ?_)
        rw [zrw_at]
        obtain ⟨cn, hc1, hc2⟩ : ∃ cn : Nat, c.toNatClampNeg = cn ∧ c.toInt = cn := ⟨c.toInt.toNat, rfl, by omega⟩
        rw [hc1]
        by_cases e : c' = cn
        · simp [upd, e]
        · simp [upd, e]
          exact h4 c' (by omega)
  refine vc_X3_wipe_0 hX hk (fun M1 e1 => ?_)
  rw [e1, zmw_bs]
  refine loop 6 0 _ (by decide) (by decide) (by rw [zrw_at]; simp [upd]) (fun c' hc' => ?_)
  simp at hc'
  omega
theorem ms_X3_wipe : zMS 1 yX3_wipe cX3_wipe 2 none sp_X3_wipe := by
  intro d hd
  obtain ⟨d', rfl⟩ : ∃ d', d = d' + 1 := ⟨d - 1, by omega⟩
  refine zmethod (tab := tb_X3_wipe) (cut := [(7, [])]) (by decide) (tk_X3_wipe d' ) ?_
  intro kd as M K h
  unfold sp_X3_wipe at h
  split at h
  · rename_i t
    exact ⟨Nat.le_of_ble_eq_true rfl, fun X hX => mt_X3_wipe hX t M h⟩
  · exact h.elim

set_option maxRecDepth 20000 in
theorem mt_X3_take {kd : Nat → Nat} {K : zK} {X : zX} (hX : ∀ (n pc : Nat) (ls : zLS) (st : List zV) (M : zM), zrun (tb_X3_take kd K) [] n X pc ls st M → X pc ls st M) (t : Nat) (u : Nat) (M : zM) (h : (kd t = 3) ∧ (kd u = 3) ∧ (¬ t = u) ∧ ∃ a : Sk, (RpS (M.1 u) a) ∧ ∀ S' : zB, (RpS S' (a)) → ∀ M' : zM, (M' = zbs M t S') → K none M') : X 0 [some (zR t 0), some (zR u 0)] [] M := by
  obtain ⟨hk, hu, hne, a, ha, hK⟩ := h
  have hnu : u ≠ t := fun e => hne e.symm
  have ok : ∀ o n : Nat, ∀ nI : Int32, zar 3 o = some (0, n) → nI.toInt = n → zcpok (kd u) o (kd t) o (0 : Int32) (0 : Int32) nI := fun o n nI h1 h2 => by
    rw [hu, hk]
    exact ⟨n, n, h1, h1, by decide, by decide, by simp only [Int32.lt_iff_toInt_lt, Int32.le_iff_toInt_le, ← Int32.toInt_inj, Int32.toInt_add, Int32.toInt_sub, Int32.toInt_mul, Int32.toInt_neg, Int.bmod, Int32.reduceToInt]; omega, by rw [z_cl, z_cl, h2]; simp, by rw [z_cl, z_cl, h2]; simp⟩
  refine vc_X3_take_0 hX hk hu (fun M1 e1 => ⟨ok 1 6 6 rfl rfl, fun M2 e2 => ⟨ok 2 24 24 rfl rfl, fun M3 e3 => ⟨ok 3 24 24 rfl rfl, fun M4 e4 => ⟨ok 4 24 24 rfl rfl, fun M5 e5 => ⟨ok 5 24 24 rfl rfl, fun M6 e6 => ⟨ok 6 24 24 rfl rfl, fun M7 e7 => ?_⟩⟩⟩⟩⟩⟩)
  rw [show (0 : Int32).toNatClampNeg = 0 from rfl, show (6 : Int32).toNatClampNeg = 6 from rfl] at e2
  rw [show (0 : Int32).toNatClampNeg = 0 from rfl, show (24 : Int32).toNatClampNeg = 24 from rfl] at e3 e4 e5 e6 e7
  unfold zcpy at e2 e3 e4 e5 e6 e7
  rw [zmw_bs] at e1 e2 e3 e4 e5 e6 e7
  subst e1
  simp only [zbs_at, zbs_bs, zbs_ne hnu] at e2
  subst e2
  simp only [zbs_at, zbs_bs, zbs_ne hnu] at e3
  subst e3
  simp only [zbs_at, zbs_bs, zbs_ne hnu] at e4
  subst e4
  simp only [zbs_at, zbs_bs, zbs_ne hnu] at e5
  subst e5
  simp only [zbs_at, zbs_bs, zbs_ne hnu] at e6
  subst e6
  simp only [zbs_at, zbs_bs, zbs_ne hnu] at e7
  refine hK _ ?_ M7 e7
  refine ⟨ha.1, fun c hc => ⟨?_, fun i l hl => ?_⟩, ?_⟩
  · simp [zrw, va_cpy, hc]
    exact (ha.2.1 c hc).1
  · obtain ⟨q1, q2, q3, q4, q5⟩ := (ha.2.1 c hc).2 i l hl
    have hi := (List.getElem?_eq_some_iff.mp hl).1
    have h4 := (ha.1.2 c hc).1
    have hq : 4 * c + i < 24 := by omega
    exact ⟨by simpa [zrw, va_cpy, hq] using q1, by simpa [zrw, va_cpy, hq] using q2, by simpa [zrw, va_cpy, hq] using q3, by simpa [zrw, va_cpy, hq] using q4, by simpa [zrw, va_cpy, hq] using q5⟩
  · simp [zrw, upd]
    exact ha.2.2
theorem ms_X3_take : zMS 1 yX3_take cX3_take 2 none sp_X3_take := by
  intro d hd
  obtain ⟨d', rfl⟩ : ∃ d', d = d' + 1 := ⟨d - 1, by omega⟩
  refine zmethod (tab := tb_X3_take) (cut := []) (by decide) (tk_X3_take d' ) ?_
  intro kd as M K h
  unfold sp_X3_take at h
  split at h
  · rename_i t u
    exact ⟨Nat.le_of_ble_eq_true rfl, fun X hX => mt_X3_take hX t u M h⟩
  · exact h.elim

theorem RpS.lq {S : zB} {a : Sk} (h : RpS S a) {c i : Nat} {l : Ly} {q : Int32} (hc : c < 6) (hl : (a.1 c)[i]? = some l) (hq : q.toInt = 4 * (c : Int) + i) : lyS S q.toNatClampNeg l ∧ 0 ≤ q.toInt ∧ q.toInt < 24 ∧ okLy a.2 l := by
  have hi := (List.getElem?_eq_some_iff.mp hl).1
  have h4 := (h.1.2 c hc).1
  refine ⟨?_, by omega, by omega, (h.1.2 c hc).2.1 i l hl⟩
  rw [z_cl, hq, show (4 * (c : Int) + i).toNat = 4 * c + i by omega]
  exact (h.2.1 c hc).2 i l hl
set_option maxRecDepth 20000 in
theorem mt_X3_field {kd : Nat → Nat} {K : zK} {X : zX} (hX : ∀ (n pc : Nat) (ls : zLS) (st : List zV) (M : zM), zrun (tb_X3_field kd K) [] n X pc ls st M → X pc ls st M) (t : Nat) (q : Int32) (w : Int32) (M : zM) (h : (kd t = 3) ∧ ∃ a : Sk, (RpS (M.1 t) a) ∧ ∃ c : Nat, ∃ i : Nat, ∃ l : Ly, (c < 6) ∧ ((a.1 c)[i]? = some l) ∧ (q.toInt = 4 * (c : Int) + i) ∧ ∀ v : Int32, (v.toInt = ly_f l w.toInt) → K (some (zI v)) M) : X 0 [some (zR t 0), some (zI (q)), some (zI (w))] [] M := by
  obtain ⟨hk, a, ha, c, i, l, hc, hl, hq, hK⟩ := h
  obtain ⟨⟨q1, q2, q3, q4, q5⟩, g1, g2, -⟩ := ha.lq hc hl hq
  have hz : ∀ o, 2 ≤ o → o ≤ 6 → zin (kd t) o 0 q := fun o h2 h6 => zin_of (n := 24) (by rw [hk]; rcases (show o = 2 ∨ o = 3 ∨ o = 4 ∨ o = 5 ∨ o = 6 by omega) with rfl | rfl | rfl | rfl | rfl <;> rfl) g1 g2
  refine vc_X3_field_0 hX hk ⟨fun e => ?_, fun _ => ⟨fun _ => ⟨fun e => ⟨hz 2 (by omega) (by omega), hK _ ?_⟩, fun n0 => ⟨fun e => ⟨hz 3 (by omega) (by omega), hK _ ?_⟩, fun n1 => ⟨fun e => ⟨hz 4 (by omega) (by omega), hK _ ?_⟩, fun n2 => ⟨fun e => ⟨hz 5 (by omega) (by omega), hK _ ?_⟩, fun n3 => ⟨hz 6 (by omega) (by omega), hK _ ?_⟩⟩⟩⟩⟩, fun e => ?_⟩⟩
  · simp only [Int32.lt_iff_toInt_lt, Int32.le_iff_toInt_le, ← Int32.toInt_inj, Int32.toInt_add, Int32.toInt_sub, Int32.toInt_mul, Int32.toInt_neg, Int.bmod, Int32.reduceToInt] at e; omega
  · subst e; rw [q1]; simp [ly_f]
  · subst e; rw [q2]; simp [ly_f]
  · subst e; rw [q3]; simp [ly_f]
  · subst e; rw [q4]; simp [ly_f]
  · rw [q5]
    simp only [Int32.lt_iff_toInt_lt, Int32.le_iff_toInt_le, ← Int32.toInt_inj, Int32.toInt_add, Int32.toInt_sub, Int32.toInt_mul, Int32.toInt_neg, Int.bmod, Int32.reduceToInt] at n0 n1 n2 n3
    unfold ly_f
    rw [if_neg n0, if_neg n1, if_neg n2, if_neg n3]
  · simp only [Int32.lt_iff_toInt_lt, Int32.le_iff_toInt_le, ← Int32.toInt_inj, Int32.toInt_add, Int32.toInt_sub, Int32.toInt_mul, Int32.toInt_neg, Int.bmod, Int32.reduceToInt] at e; omega
theorem ms_X3_field : zMS 1 yX3_field cX3_field 3 (some .int) sp_X3_field := by
  intro d hd
  obtain ⟨d', rfl⟩ : ∃ d', d = d' + 1 := ⟨d - 1, by omega⟩
  refine zmethod (tab := tb_X3_field) (cut := []) (by decide) (tk_X3_field d' ) ?_
  intro kd as M K h
  unfold sp_X3_field at h
  split at h
  · rename_i t q w
    exact ⟨Nat.le_of_ble_eq_true rfl, fun X hX => mt_X3_field hX t q w M h⟩
  · exact h.elim

set_option maxRecDepth 20000 in
theorem mt_X3_layersInAll {kd : Nat → Nat} {K : zK} {X : zX} (hX : ∀ (n pc : Nat) (ls : zLS) (st : List zV) (M : zM), zrun (tb_X3_layersInAll kd K) [(4, [])] n X pc ls st M → X pc ls st M) (t : Nat) (M : zM) (h : (kd t = 3) ∧ ∃ a : Sk, (RpS (M.1 t) a) ∧ ∀ v : Int32, (v.toInt = sk_all a) → K (some (zI v)) M) : X 0 [some (zR t 0), none, none] [] M := by
  obtain ⟨hk, a, ha, hK⟩ := h
  have hbd : ∀ n, n ≤ 6 → 0 ≤ zsm (fun c => ((a.1 c).length : Int)) n ∧ zsm (fun c => ((a.1 c).length : Int)) n ≤ 4 * n := by
    intro n
    induction n with
    | zero => simp [zsm]
    | succ n ih =>
      intro hn
      have h1 := ih (by omega)
      have h2 := (ha.1.2 n (by omega)).1
      rw [zsm_s]
      omega
  have loop : ∀ (n cn : Nat) (s c : Int32), cn + n = 6 → c.toInt = cn → s.toInt = zsm (fun c => ((a.1 c).length : Int)) cn → X 4 [some (zR t 0), some (zI s), some (zI c)] [] M := by
    intro n
    induction n with
    | zero =>
      intro cn s c h1 h2 h3
      refine vc_X3_layersInAll_4 hX hk ⟨fun _ => hK _ (by rw [h3, show cn = 6 by omega]; rfl), fun q => ?_⟩
      simp only [Int32.lt_iff_toInt_lt, Int32.le_iff_toInt_le, ← Int32.toInt_inj, Int32.toInt_add, Int32.toInt_sub, Int32.toInt_mul, Int32.toInt_neg, Int.bmod, Int32.reduceToInt] at q; omega
    | succ n ih =>
      intro cn s c h1 h2 h3
      have hh := (ha.2.1 cn (by omega)).1
      have h4 := (ha.1.2 cn (by omega)).1
      have h5 := hbd cn (by omega)
      refine vc_X3_layersInAll_4 hX hk ⟨fun q => ?_, fun q => ⟨zin_of (by rw [hk]; rfl) (by omega) (by omega), ih (cn + 1) _ _ (by omega) ?_ ?_⟩⟩
      · simp only [Int32.lt_iff_toInt_lt, Int32.le_iff_toInt_le, ← Int32.toInt_inj, Int32.toInt_add, Int32.toInt_sub, Int32.toInt_mul, Int32.toInt_neg, Int.bmod, Int32.reduceToInt] at q; omega
      · simp only [Int32.lt_iff_toInt_lt, Int32.le_iff_toInt_le, ← Int32.toInt_inj, Int32.toInt_add, Int32.toInt_sub, Int32.toInt_mul, Int32.toInt_neg, Int.bmod, Int32.reduceToInt]; omega
      · rw [z_cl, h2, Int.toNat_natCast, zsm_s]
        simp only [Int32.lt_iff_toInt_lt, Int32.le_iff_toInt_le, ← Int32.toInt_inj, Int32.toInt_add, Int32.toInt_sub, Int32.toInt_mul, Int32.toInt_neg, Int.bmod, Int32.reduceToInt]
        omega
  exact vc_X3_layersInAll_0 hX (loop 6 0 0 0 rfl rfl rfl)
theorem ms_X3_layersInAll : zMS 1 yX3_layersInAll cX3_layersInAll 3 (some .int) sp_X3_layersInAll := by
  intro d hd
  obtain ⟨d', rfl⟩ : ∃ d', d = d' + 1 := ⟨d - 1, by omega⟩
  refine zmethod (tab := tb_X3_layersInAll) (cut := [(4, [])]) (by decide) (tk_X3_layersInAll d' ) ?_
  intro kd as M K h
  unfold sp_X3_layersInAll at h
  split at h
  · rename_i t
    exact ⟨Nat.le_of_ble_eq_true rfl, fun X hX => mt_X3_layersInAll hX t M h⟩
  · exact h.elim

set_option maxRecDepth 20000 in
theorem mt_X3_opens {kd : Nat → Nat} {K : zK} {X : zX} (hX : ∀ (n pc : Nat) (ls : zLS) (st : List zV) (M : zM), zrun (tb_X3_opens kd K) [] n X pc ls st M → X pc ls st M) (t : Nat) (k : Int32) (q : Int32) (M : zM) (h : (kd t = 3) ∧ ∃ a : Sk, (RpS (M.1 t) a) ∧ ∃ c : Nat, ∃ i : Nat, ∃ l : Ly, (c < 6) ∧ ((a.1 c)[i]? = some l) ∧ (q.toInt = 4 * (c : Int) + i) ∧ ∀ v : Int32, (v.toInt = opn k.toInt l) → K (some (zI v)) M) : X 0 [some (zR t 0), some (zI (k)), some (zI (q))] [] M := by
  obtain ⟨hk, a, ha, c, i, l, hc, hl, hq, hK⟩ := h
  obtain ⟨⟨q1, q2, q3, q4, q5⟩, g1, g2, -⟩ := ha.lq hc hl hq
  have z6 : zin (kd t) 6 0 q := zin_of (n := 24) (by rw [hk]; rfl) g1 g2
  have hr : (¬ M.1 t 6 q.toNatClampNeg = (-1 : Int32)) ↔ ¬ l.2.2.2.2 = -1 := by rw [← Int32.toInt_inj, q5]; exact Iff.rfl
  have key : (k.toInt = 1 ∨ k.toInt = 5) → (zin (kd t) 6 0 q) ∧ ((¬ (M.1 t 6 (q).toNatClampNeg) = (-1 : Int32)) → (zin (kd t) 6 0 q) ∧ K (some (zI (M.1 t 6 (q).toNatClampNeg))) M) ∧ (((M.1 t 6 (q).toNatClampNeg) = (-1 : Int32)) → K (some (zI ((1000000 : Int32)))) M) := fun hk15 => by
    refine ⟨z6, fun e => ⟨z6, hK _ ?_⟩, fun e => hK _ ?_⟩
    · rw [q5]; unfold opn; rw [if_pos hk15, if_neg (hr.mp e)]
    · unfold opn; rw [if_pos hk15, if_pos (by rw [← q5, e]; rfl)]; rfl
  refine vc_X3_opens_0 hX hk ⟨fun e => ?_, fun _ => ⟨fun _ => ⟨fun e => key (Or.inl (by rw [e]; rfl)), fun n1 => ⟨fun n5 => ⟨zin_of (n := 24) (by rw [hk]; rfl) g1 g2, hK _ ?_⟩, fun e => key (Or.inr (by rw [e]; rfl))⟩⟩, fun e => ?_⟩⟩
  · simp only [Int32.lt_iff_toInt_lt, Int32.le_iff_toInt_le, ← Int32.toInt_inj, Int32.toInt_add, Int32.toInt_sub, Int32.toInt_mul, Int32.toInt_neg, Int.bmod, Int32.reduceToInt] at e; omega
  · rw [q4]
    simp only [Int32.lt_iff_toInt_lt, Int32.le_iff_toInt_le, ← Int32.toInt_inj, Int32.toInt_add, Int32.toInt_sub, Int32.toInt_mul, Int32.toInt_neg, Int.bmod, Int32.reduceToInt] at n1 n5
    unfold opn
    rw [if_neg (by omega)]
  · simp only [Int32.lt_iff_toInt_lt, Int32.le_iff_toInt_le, ← Int32.toInt_inj, Int32.toInt_add, Int32.toInt_sub, Int32.toInt_mul, Int32.toInt_neg, Int.bmod, Int32.reduceToInt] at e; omega
theorem ms_X3_opens : zMS 1 yX3_opens cX3_opens 3 (some .int) sp_X3_opens := by
  intro d hd
  obtain ⟨d', rfl⟩ : ∃ d', d = d' + 1 := ⟨d - 1, by omega⟩
  refine zmethod (tab := tb_X3_opens) (cut := []) (by decide) (tk_X3_opens d' ) ?_
  intro kd as M K h
  unfold sp_X3_opens at h
  split at h
  · rename_i t k q
    exact ⟨Nat.le_of_ble_eq_true rfl, fun X hX => mt_X3_opens hX t k q M h⟩
  · exact h.elim

set_option maxRecDepth 20000 in
theorem mt_X3_weight {kd : Nat → Nat} {K : zK} {X : zX} (hX : ∀ (n pc : Nat) (ls : zLS) (st : List zV) (M : zM), zrun (tb_X3_weight kd K) [] n X pc ls st M → X pc ls st M) (k : Int32) (s : Int32) (M : zM) (h : (0 ≤ s.toInt ∧ s.toInt ≤ 999) ∧ ∀ v : Int32, (v.toInt = cntK k.toInt s.toInt) → K (some (zI v)) M) : X 0 [some (zI (k)), some (zI (s))] [] M := by
  obtain ⟨hs, hK⟩ := h
  refine vc_X3_weight_0 hX ⟨fun e => hK _ ?_, fun n2 => ⟨fun e => hK _ ?_, fun n3 => ⟨fun e => hK _ ?_, fun n4 => ⟨fun e => hK _ ?_, fun n5 => hK _ ?_⟩⟩⟩⟩
  · subst e; rw [z_div hs.1 (by decide)]; rfl
  · subst e; rfl
  · subst e; show _ = 2 * s.toInt; simp only [Int32.lt_iff_toInt_lt, Int32.le_iff_toInt_le, ← Int32.toInt_inj, Int32.toInt_add, Int32.toInt_sub, Int32.toInt_mul, Int32.toInt_neg, Int.bmod, Int32.reduceToInt]; omega
  · subst e; show _ = s.toInt + 3; simp only [Int32.lt_iff_toInt_lt, Int32.le_iff_toInt_le, ← Int32.toInt_inj, Int32.toInt_add, Int32.toInt_sub, Int32.toInt_mul, Int32.toInt_neg, Int.bmod, Int32.reduceToInt]; omega
  · simp only [Int32.lt_iff_toInt_lt, Int32.le_iff_toInt_le, ← Int32.toInt_inj, Int32.toInt_add, Int32.toInt_sub, Int32.toInt_mul, Int32.toInt_neg, Int.bmod, Int32.reduceToInt] at n2 n3 n4 n5
    unfold cntK
    rw [if_neg n2, if_neg n4, if_neg n5]
theorem ms_X3_weight : zMS 1 yX3_weight cX3_weight 2 (some .int) sp_X3_weight := by
  intro d hd
  obtain ⟨d', rfl⟩ : ∃ d', d = d' + 1 := ⟨d - 1, by omega⟩
  refine zmethod (tab := tb_X3_weight) (cut := []) (by decide) (tk_X3_weight d' ) ?_
  intro kd as M K h
  unfold sp_X3_weight at h
  split at h
  · rename_i k s
    exact ⟨Nat.le_of_ble_eq_true rfl, fun X hX => mt_X3_weight hX k s M h⟩
  · exact h.elim

set_option maxRecDepth 20000 in
theorem mt_X3_shuts {kd : Nat → Nat} {K : zK} {X : zX} (hX : ∀ (n pc : Nat) (ls : zLS) (st : List zV) (M : zM), zrun (tb_X3_shuts kd K) [] n X pc ls st M → X pc ls st M) (t : Nat) (k : Int32) (q : Int32) (o : Int32) (M : zM) (h : (kd t = 3) ∧ ∃ a : Sk, (RpS (M.1 t) a) ∧ ∃ c : Nat, ∃ i : Nat, ∃ l : Ly, (c < 6) ∧ ((a.1 c)[i]? = some l) ∧ (q.toInt = 4 * (c : Int) + i) ∧ (o.toInt = if ((a.1 c)[i + 1]?).isSome then 4 * (c : Int) + i + 1 else -1) ∧ ∀ v : Int32, (v.toInt = sht k.toInt l ((a.1 c)[i + 1]?)) → K (some (zI v)) M) : X 0 [some (zR t 0), some (zI (k)), some (zI (q)), some (zI (o)), none, none] [] M := by
  obtain ⟨hk, a, ha, c, i, l, hc, hl, hq, ho, hK⟩ := h
  obtain ⟨⟨q1, q2, q3, q4, q5⟩, g1, g2, ⟨-, -, -, okw, okr⟩⟩ := ha.lq hc hl hq
  have hyr := ha.1.1
  have z5 : zin (kd t) 5 0 q := zin_of (n := 24) (by rw [hk]; rfl) g1 g2
  have z6 : zin (kd t) 6 0 q := zin_of (n := 24) (by rw [hk]; rfl) g1 g2
  have h4 := (ha.1.2 c hc).1
  refine vc_X3_shuts_0 hX hk ⟨fun e => ?_, fun _ => ⟨fun e => ?_, fun _ => ⟨fun e => ?_, fun _ => ⟨z6, fun hr => ⟨fun n3 => ?_, fun e3 => ⟨z6, hK _ ?_⟩⟩, fun hr => hK _ ?_⟩⟩⟩⟩
  · simp only [Int32.lt_iff_toInt_lt, Int32.le_iff_toInt_le, ← Int32.toInt_inj, Int32.toInt_add, Int32.toInt_sub, Int32.toInt_mul, Int32.toInt_neg, Int.bmod, Int32.reduceToInt] at e; omega
  · simp only [Int32.lt_iff_toInt_lt, Int32.le_iff_toInt_le, ← Int32.toInt_inj, Int32.toInt_add, Int32.toInt_sub, Int32.toInt_mul, Int32.toInt_neg, Int.bmod, Int32.reduceToInt] at e; omega
  · exfalso
    simp only [Int32.lt_iff_toInt_lt, Int32.le_iff_toInt_le, ← Int32.toInt_inj, Int32.toInt_add, Int32.toInt_sub, Int32.toInt_mul, Int32.toInt_neg, Int.bmod, Int32.reduceToInt] at e
    cases hx : (a.1 c)[i + 1]? with
    | none => rw [hx] at ho; simp at ho; omega
    | some x =>
      rw [hx] at ho
      have := (List.getElem?_eq_some_iff.mp hx).1
      simp at ho
      omega
  · rw [← Int32.toInt_inj, q5] at hr
    have hr' : ¬ l.2.2.2.2 = -1 := hr
    rw [← Int32.toInt_inj] at n3
    have n3' : ¬ k.toInt = 3 := n3
    have es : sht k.toInt l ((a.1 c)[i + 1]?) = shO (cntK k.toInt (l.2.2.2.2 - l.2.2.2.1)) ((a.1 c)[i + 1]?) := by unfold sht; rw [if_neg hr', if_neg n3']
    rw [es] at hK
    have ed : ((M.1 t 6 (q).toNatClampNeg) - (M.1 t 5 (q).toNatClampNeg)).toInt = l.2.2.2.2 - l.2.2.2.1 := by simp only [Int32.lt_iff_toInt_lt, Int32.le_iff_toInt_le, ← Int32.toInt_inj, Int32.toInt_add, Int32.toInt_sub, Int32.toInt_mul, Int32.toInt_neg, Int.bmod, Int32.reduceToInt]; omega
    cases hx : (a.1 c)[i + 1]? with
    | none =>
      rw [hx] at ho hK
      simp at ho
      exact ⟨fun e => by simp only [Int32.lt_iff_toInt_lt, Int32.le_iff_toInt_le, ← Int32.toInt_inj, Int32.toInt_add, Int32.toInt_sub, Int32.toInt_mul, Int32.toInt_neg, Int.bmod, Int32.reduceToInt] at e; omega, fun _ => hK _ rfl⟩
    | some x =>
      rw [hx] at ho hK
      have hi1 := (List.getElem?_eq_some_iff.mp hx).1
      simp at ho
      obtain ⟨⟨-, -, -, x4, x5⟩, f1, f2, ⟨-, -, -, xw, xr⟩⟩ := ha.lq (q := o) hc hx (by omega)
      have y5 : zin (kd t) 5 0 o := zin_of (n := 24) (by rw [hk]; rfl) f1 f2
      have y6 : zin (kd t) 6 0 o := zin_of (n := 24) (by rw [hk]; rfl) f1 f2
      refine ⟨fun _ => ⟨y5, z6, z5, by rw [ed]; omega, fun v1 hv1 => ⟨y6, fun e => hK _ ?_, fun e => ⟨y6, fun e2 => hK _ ?_, fun e2 => hK _ ?_⟩⟩⟩, fun e => by simp only [Int32.lt_iff_toInt_lt, Int32.le_iff_toInt_le, ← Int32.toInt_inj, Int32.toInt_add, Int32.toInt_sub, Int32.toInt_mul, Int32.toInt_neg, Int.bmod, Int32.reduceToInt] at e; omega⟩
      · rw [← Int32.toInt_inj, x5] at e
        have e' : x.2.2.2.2 = -1 := e
        rw [ed] at hv1
        have b1 := cntK_nn (k := k.toInt) (st := l.2.2.2.2 - l.2.2.2.1) (by omega)
        have b2 := cntK_le (k := k.toInt) (st := l.2.2.2.2 - l.2.2.2.1) (by omega)
        unfold shO
        dsimp only
        rw [if_neg (by omega), ← hv1]
        simp only [Int32.lt_iff_toInt_lt, Int32.le_iff_toInt_le, ← Int32.toInt_inj, Int32.toInt_add, Int32.toInt_sub, Int32.toInt_mul, Int32.toInt_neg, Int.bmod, Int32.reduceToInt]
        omega
      · rw [← Int32.toInt_inj, x5] at e
        have e' : ¬ x.2.2.2.2 = -1 := e
        rw [ed] at hv1
        have b1 := cntK_nn (k := k.toInt) (st := l.2.2.2.2 - l.2.2.2.1) (by omega)
        have b2 := cntK_le (k := k.toInt) (st := l.2.2.2.2 - l.2.2.2.1) (by omega)
        have ew : ((M.1 t 5 (o).toNatClampNeg) + v1).toInt = x.2.2.2.1 + cntK k.toInt (l.2.2.2.2 - l.2.2.2.1) := by rw [z_add, x4, hv1] <;> omega
        rw [Int32.le_iff_toInt_le, ew, x5] at e2
        unfold shO
        dsimp only
        rw [if_neg (by omega), ew]
      · rw [← Int32.toInt_inj, x5] at e
        have e' : ¬ x.2.2.2.2 = -1 := e
        rw [ed] at hv1
        have b1 := cntK_nn (k := k.toInt) (st := l.2.2.2.2 - l.2.2.2.1) (by omega)
        have b2 := cntK_le (k := k.toInt) (st := l.2.2.2.2 - l.2.2.2.1) (by omega)
        have ew : ((M.1 t 5 (o).toNatClampNeg) + v1).toInt = x.2.2.2.1 + cntK k.toInt (l.2.2.2.2 - l.2.2.2.1) := by rw [z_add, x4, hv1] <;> omega
        rw [Int32.le_iff_toInt_le, ew, x5] at e2
        unfold shO
        dsimp only
        rw [if_pos ⟨e', by omega⟩]
        rfl
  · rw [← Int32.toInt_inj, q5] at hr
    have hr' : ¬ l.2.2.2.2 = -1 := hr
    subst e3
    rw [q5]
    unfold sht
    rw [if_neg hr', if_pos (show (3 : Int32).toInt = 3 from rfl)]
  · rw [← Int32.toInt_inj, q5] at hr
    have hr' : l.2.2.2.2 = -1 := hr
    unfold sht
    rw [if_pos hr']
    rfl
theorem ms_X3_shuts : zMS 2 yX3_shuts cX3_shuts 6 (some .int) sp_X3_shuts := by
  intro d hd
  obtain ⟨d', rfl⟩ : ∃ d', d = d' + 2 := ⟨d - 2, by omega⟩
  refine zmethod (tab := tb_X3_shuts) (cut := []) (by decide) (tk_X3_shuts d' ms_X3_weight) ?_
  intro kd as M K h
  unfold sp_X3_shuts at h
  split at h
  · rename_i t k q o
    exact ⟨Nat.le_of_ble_eq_true rfl, fun X hX => mt_X3_shuts hX t k q o M h⟩
  · exact h.elim

theorem sk_at_nat {a : Sk} {c i : Int} (h : 0 ≤ c ∧ c < 6 ∧ 0 ≤ i) : sk_at a c i = (a.1 c.toNat)[i.toNat]? := if_pos h
set_option maxRecDepth 20000 in
theorem mt_X3_wouldBind {kd : Nat → Nat} {K : zK} {X : zX} (hX : ∀ (n pc : Nat) (ls : zLS) (st : List zV) (M : zM), zrun (tb_X3_wouldBind kd K) [] n X pc ls st M → X pc ls st M) (t : Nat) (k : Int32) (c : Int32) (i : Int32) (y : Int32) (M : zM) (h : (kd t = 3) ∧ ∃ a : Sk, (RpS (M.1 t) a) ∧ ∃ l : Ly, (sk_at a c.toInt i.toInt = some l) ∧ (0 ≤ y.toInt ∧ y.toInt < 1000000) ∧ ∀ v : Int32, (v = zp (bnd k.toInt l (sk_at a c.toInt (i.toInt + 1)) y.toInt = true)) → K (some (zI v)) M) : X 0 [some (zR t 0), some (zI (k)), some (zI (c)), some (zI (i)), some (zI (y)), none] [] M := by
  obtain ⟨hk, a, ha, l, hl, hy, hK⟩ := h
  obtain ⟨g1, g2, g3, g4, g5⟩ := sk_at_some hl
  have hb := sk_len_b ha.1 g1 g2
  have ei : (i + (1 : Int32)).toInt = i.toInt + 1 := by simp only [Int32.lt_iff_toInt_lt, Int32.le_iff_toInt_le, ← Int32.toInt_inj, Int32.toInt_add, Int32.toInt_sub, Int32.toInt_mul, Int32.toInt_neg, Int.bmod, Int32.reduceToInt]; omega
  have eo : sk_at a c.toInt (i.toInt + 1) = (a.1 c.toInt.toNat)[i.toInt.toNat + 1]? := by rw [sk_at_nat (by omega), show (i.toInt + 1).toNat = i.toInt.toNat + 1 by omega]
  refine vc_X3_wouldBind_0 hX hk ⟨a, ha, fun v1 hv1 => ?_⟩
  rw [hl] at hv1
  simp at hv1
  refine ⟨a, ha, c.toInt.toNat, i.toInt.toNat, l, by omega, g5, by omega, fun v2 hv2 => ⟨fun e => hK _ (zp_f ?_).symm, fun e => ⟨a, ha, fun v3 hv3 => ⟨a, ha, c.toInt.toNat, i.toInt.toNat, l, by omega, g5, by omega, ?_, fun v4 hv4 => ⟨fun e2 => hK _ (zp_f ?_).symm, fun e2 => hK _ (zp_t ?_).symm⟩⟩⟩⟩⟩
  · rw [Int32.lt_iff_toInt_lt, hv2] at e
    simp [bnd]
    omega
  · rw [hv3, ei, eo]
    split <;> omega
  · rw [Int32.le_iff_toInt_le, hv4, ← eo] at e2
    simp [bnd]
    omega
  · rw [Int32.le_iff_toInt_le, hv4, ← eo] at e2
    rw [Int32.lt_iff_toInt_lt, hv2] at e
    simp [bnd]
    omega
theorem ms_X3_wouldBind : zMS 3 yX3_wouldBind cX3_wouldBind 6 (some .boolean) sp_X3_wouldBind := by
  intro d hd
  obtain ⟨d', rfl⟩ : ∃ d', d = d' + 3 := ⟨d - 3, by omega⟩
  refine zmethod (tab := tb_X3_wouldBind) (cut := []) (by decide) (tk_X3_wouldBind d' ms_X3_slot ms_X3_opens ms_X3_shuts) ?_
  intro kd as M K h
  unfold sp_X3_wouldBind at h
  split at h
  · rename_i t k c i y
    exact ⟨Nat.le_of_ble_eq_true rfl, fun X hX => mt_X3_wouldBind hX t k c i y M h⟩
  · exact h.elim

set_option maxRecDepth 20000 in
theorem mt_X3_bound {kd : Nat → Nat} {K : zK} {X : zX} (hX : ∀ (n pc : Nat) (ls : zLS) (st : List zV) (M : zM), zrun (tb_X3_bound kd K) [] n X pc ls st M → X pc ls st M) (t : Nat) (c : Int32) (i : Int32) (y : Int32) (M : zM) (h : (kd t = 3) ∧ ∃ a : Sk, (RpS (M.1 t) a) ∧ (0 ≤ y.toInt ∧ y.toInt < 1000000) ∧ ∀ v : Int32, (v = zp (sk_bd a c.toInt i.toInt y.toInt = true)) → K (some (zI v)) M) : X 0 [some (zR t 0), some (zI (c)), some (zI (i)), some (zI (y)), none] [] M := by
  obtain ⟨hk, a, ha, hy, hK⟩ := h
  refine vc_X3_bound_0 hX hk ⟨a, ha, fun v1 hv1 => ?_⟩
  cases hl : sk_at a c.toInt i.toInt with
  | none =>
    rw [hl] at hv1
    have e : v1 = -1 := Int32.toInt_inj.mp hv1
    exact ⟨fun _ => hK _ (zp_f (by simp [sk_bd, hl])).symm, fun q => absurd e q⟩
  | some l =>
    obtain ⟨g1, g2, g3, g4, g5⟩ := sk_at_some hl
    have hb := sk_len_b ha.1 g1 g2
    rw [hl] at hv1
    simp at hv1
    obtain ⟨q1, -⟩ := ha.ly hl (q := v1) (by omega)
    refine ⟨fun e => ?_, fun _ => ⟨zin_of (n := 24) (by rw [hk]; rfl) (by omega) (by omega), a, ha, l, hl, hy, fun v2 hv2 => ?_⟩⟩
    · rw [e] at hv1; simp at hv1; omega
    · rw [q1] at hv2
      have e : (sk_bd a c.toInt i.toInt y.toInt = true) ↔ bnd l.1 l (sk_at a c.toInt (i.toInt + 1)) y.toInt = true := by simp [sk_bd, hl]
      refine ⟨fun h0 => hK _ (zp_f ?_).symm, fun h0 => hK _ (zp_t ?_).symm⟩
      · rw [hv2, zp_0] at h0
        rw [e]; exact h0
      · rw [hv2, zp_n] at h0
        rw [e]; exact h0
theorem ms_X3_bound : zMS 4 yX3_bound cX3_bound 5 (some .boolean) sp_X3_bound := by
  intro d hd
  obtain ⟨d', rfl⟩ : ∃ d', d = d' + 4 := ⟨d - 4, by omega⟩
  refine zmethod (tab := tb_X3_bound) (cut := []) (by decide) (tk_X3_bound d' ms_X3_slot ms_X3_wouldBind) ?_
  intro kd as M K h
  unfold sp_X3_bound at h
  split at h
  · rename_i t c i y
    exact ⟨Nat.le_of_ble_eq_true rfl, fun X hX => mt_X3_bound hX t c i y M h⟩
  · exact h.elim

