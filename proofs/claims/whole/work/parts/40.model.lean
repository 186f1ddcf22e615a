theorem zrw_rw {S : zB} {o : Nat} {f g : Nat → Int32} : zrw (zrw S o f) o g = zrw S o g := by
  funext p
  by_cases hp : p = o
  · subst hp; rw [zrw_at, zrw_at]
  · rw [zrw_ne hp, zrw_ne hp, zrw_ne hp]
theorem zmw_mw {M : zM} {t o : Nat} {f g : Nat → Int32} : zmw (zmw M t o f) t o g = zmw M t o g := by rw [zmw_bs, zmw_bs, zmw_bs, zbs_bs, zbs_at, zrw_rw]
theorem upd_at {f : Nat → Int32} {k : Nat} {x : Int32} : upd f k x k = x := by simp [upd]
theorem upd_ne {f : Nat → Int32} {k j : Nat} {x : Int32} (h : j ≠ k) : upd f k x j = f j := by simp [upd, h]
theorem z8 {kd : Nat → Nat} {t o : Nat} (hk : kd t = 8) (ho : o = 1 ∨ o = 5 ∨ o = 10) {x : Int32} (h0 : 0 ≤ x.toInt) (h1 : x.toInt < 127) : zin (kd t) o 0 x := by
  rcases ho with rfl | rfl | rfl
  · exact zin_of (n := 915) (by rw [hk]; rfl) h0 (by omega)
  · exact zin_of (n := 127) (by rw [hk]; rfl) h0 (by omega)
  · exact zin_of (n := 153) (by rw [hk]; rfl) h0 (by omega)
theorem z0a (c : Int32) : (0 : Int32) + c = c := Int32.zero_add c
theorem RpF.len {f : Nat → Int32} {a : Sk} (h : RpF f a) {c : Int32} (hc : isC c.toInt) : (f c.toNatClampNeg).toInt = sk_len a c.toInt := (h.2.1 c.toInt.toNat (by omega)).1
theorem RpF.ly {f : Nat → Int32} {a : Sk} (h : RpF f a) {c i : Int} {l : Ly} (hl : sk_at a c i = some l) {j : Nat} (hj : j < 5) {q : Int32} (hq : q.toInt = 6 + 20 * c + 5 * i + j) : (f q.toNatClampNeg).toInt = ly_f l j := by
  obtain ⟨h0, h1, h2, h3, h4⟩ := sk_at_some hl
  have := (h.2.1 c.toNat (by omega)).2 i.toNat l h4 j hj
  rw [show q.toNatClampNeg = 6 + 20 * c.toNat + 5 * i.toNat + j by rw [z_cl]; omega]
  exact this
theorem RpF.rub {f : Nat → Int32} {a : Sk} (h : RpF f a) {c : Int} {l : Ly} (hl : sk_top a c = some l) {q : Nat} (hq : (q : Int) = 6 + 20 * c + 5 * (sk_len a c - 1) + 4) {x : Int32} (hx : x.toInt = a.2) : RpF (upd f q x) (sk_rub a c) ∧ ∀ k, 127 ≤ k → upd f q x k = f k := by
  obtain ⟨h0, h1, h2⟩ := sk_top_get hl
  have hb := sk_len_b h.1 h0 h1
  have hlt := (List.getElem?_eq_some_iff.mp h2).1
  have hsl : sk_len a c = ((a.1 c.toNat).length : Int) := rfl
  refine ⟨⟨sk_rub_ok h.1 hl, fun d hd => ?_, ?_⟩, fun k hk => upd_ne (by omega)⟩
  · rw [sk_rub_eq hl]
    unfold sk_upd
    by_cases hdc : d = c.toNat
    · subst hdc
      simp only [if_true]
      refine ⟨by rw [List.length_set, upd_ne (by omega)]; exact (h.2.1 _ hd).1, fun i l' hl' j hj => ?_⟩
      have hi := (List.getElem?_eq_some_iff.mp hl').1
      rw [List.length_set] at hi
      rw [List.getElem?_set] at hl'
      by_cases hi2 : (a.1 c.toNat).length - 1 = i
      · rw [if_pos hi2, if_pos (by omega)] at hl'
        have hl'' := Option.some.inj hl'
        subst hl''
        by_cases hj4 : j = 4
        · subst hj4
          rw [show 6 + 20 * c.toNat + 5 * i + 4 = q by omega, upd_at, hx]
          rfl
        · rw [upd_ne (by omega)]
          have := (h.2.1 _ hd).2 i l (by rw [← hi2]; exact h2) j hj
          rw [this]
          rcases (show j = 0 ∨ j = 1 ∨ j = 2 ∨ j = 3 by omega) with rfl | rfl | rfl | rfl <;> rfl
      · rw [if_neg hi2] at hl'
        rw [upd_ne (by omega)]
        exact (h.2.1 _ hd).2 i l' hl' j hj
    · simp only [if_neg hdc]
      have hd4 := (h.1.2 d hd).1
      refine ⟨by rw [upd_ne (by omega)]; exact (h.2.1 _ hd).1, fun i l' hl' j hj => ?_⟩
      have hi := (List.getElem?_eq_some_iff.mp hl').1
      rw [upd_ne (by omega)]
      exact (h.2.1 _ hd).2 i l' hl' j hj
  · rw [upd_ne (by omega), h.2.2, sk_rub_eq hl]
    rfl
theorem RpF.wr {f f' : Nat → Int32} {a : Sk} (h : RpF f a) {c k g e : Int} (h0 : 0 ≤ c) (h6 : c < 6) (hr : sk_canR a c = false) (hln : sk_len a c < 4) (hk : 0 ≤ k ∧ k ≤ 5) (hg : 0 ≤ g ∧ g ≤ 4) (he : e = 0 ∨ e = 1) {q : Nat} (hq : (q : Int) = 6 + 20 * c + 5 * sk_len a c) (hc : (f' c.toNat).toInt = sk_len a c + 1) (hn : ∀ j : Nat, j < 5 → (f' (q + j)).toInt = ly_f (k, g, e, a.2, -1) j) (ho : ∀ m, m ≠ c.toNat → (m < q ∨ q + 5 ≤ m) → f' m = f m) : RpF f' (sk_wr a c k g e) := by
  have hb := sk_len_b h.1 h0 h6
  have hsl : sk_len a c = ((a.1 c.toNat).length : Int) := rfl
  refine ⟨sk_wr_ok h.1 h0 h6 hr hk hg he, fun d hd => ?_, ?_⟩
  · unfold sk_wr sk_upd
    rw [if_pos hln]
    by_cases hdc : d = c.toNat
    · subst hdc
      simp only [if_true]
      refine ⟨by rw [hc, List.length_append]; simp; omega, fun i l' hl' j hj => ?_⟩
      have hi := (List.getElem?_eq_some_iff.mp hl').1
      rw [List.length_append, List.length_singleton] at hi
      by_cases hi2 : i = (a.1 c.toNat).length
      · rw [List.getElem?_append_right (by omega)] at hl'
        simp [hi2] at hl'
        rw [← hl', show 6 + 20 * c.toNat + 5 * i + j = q + j by omega]
        exact hn j hj
      · rw [List.getElem?_append_left (by omega)] at hl'
        rw [ho _ (by omega) (by omega)]
        exact (h.2.1 _ hd).2 i l' hl' j hj
    · simp only [if_neg hdc]
      have hd4 := (h.1.2 d hd).1
      refine ⟨by rw [ho _ hdc (by omega)]; exact (h.2.1 _ hd).1, fun i l' hl' j hj => ?_⟩
      have hi := (List.getElem?_eq_some_iff.mp hl').1
      rw [ho _ (by omega) (by omega)]
      exact (h.2.1 _ hd).2 i l' hl' j hj
  · rw [ho _ (by omega) (by omega), h.2.2]
    unfold sk_wr
    split <;> rfl
set_option maxRecDepth 20000 in
theorem mt_X8_in {kd : Nat → Nat} {K : zK} {X : zX} (hX : ∀ (n pc : Nat) (ls : zLS) (st : List zV) (M : zM), zrun (tb_X8_in kd K) [] n X pc ls st M → X pc ls st M) (p : Int64) (q : Int64) (r : Int64) (M : zM) (h : ∀ v : Int32, (v = zp (q.toInt ≤ p.toInt ∧ p.toInt ≤ r.toInt)) → K (some (zI v)) M) : X 0 [some (zL (p)), none, some (zL (q)), none, some (zL (r)), none] [] M := by
  refine vc_X8_in_0 hX ⟨fun a => h _ (zp_f ?_).symm, fun a => ⟨fun b => h _ (zp_f ?_).symm, fun b => h _ (zp_t ?_).symm⟩⟩ <;> simp only [lg_cmp_lt, lg_cmp_gt, Int64.lt_iff_toInt_lt] at * <;> omega
theorem ms_X8_in : zMS 1 yX8_in cX8_in 6 (some .boolean) sp_X8_in := by
  intro d hd
  obtain ⟨d', rfl⟩ : ∃ d', d = d' + 1 := ⟨d - 1, by omega⟩
  refine zmethod (tab := tb_X8_in) (cut := []) (by decide) (tk_X8_in d' ) ?_
  intro kd as M K h
  unfold sp_X8_in at h
  split at h
  · rename_i p q r
    exact ⟨Nat.le_of_ble_eq_true rfl, fun X hX => mt_X8_in hX p q r M h⟩
  · exact h.elim

set_option maxRecDepth 20000 in
theorem mt_X8_isCell {kd : Nat → Nat} {K : zK} {X : zX} (hX : ∀ (n pc : Nat) (ls : zLS) (st : List zV) (M : zM), zrun (tb_X8_isCell kd K) [] n X pc ls st M → X pc ls st M) (c : Int32) (M : zM) (h : ∀ v : Int32, (v = zp (isC c.toInt)) → K (some (zI v)) M) : X 0 [some (zI (c))] [] M := by
  refine vc_X8_isCell_0 hX (fun v h1 => ⟨by rw [h1]; exact zp_01, h v ?_⟩)
  rw [h1]
  refine zp_i ?_
  rw [Int32.toInt_toInt64]
  show (0 ≤ c.toInt ∧ c.toInt ≤ 5) ↔ (0 ≤ c.toInt ∧ c.toInt < 6)
  omega
theorem ms_X8_isCell : zMS 2 yX8_isCell cX8_isCell 1 (some .boolean) sp_X8_isCell := by
  intro d hd
  obtain ⟨d', rfl⟩ : ∃ d', d = d' + 2 := ⟨d - 2, by omega⟩
  refine zmethod (tab := tb_X8_isCell) (cut := []) (by decide) (tk_X8_isCell d' ms_X8_in) ?_
  intro kd as M K h
  unfold sp_X8_isCell at h
  split at h
  · rename_i c
    exact ⟨Nat.le_of_ble_eq_true rfl, fun X hX => mt_X8_isCell hX c M h⟩
  · exact h.elim

set_option maxRecDepth 20000 in
theorem mt_X8_isThing {kd : Nat → Nat} {K : zK} {X : zX} (hX : ∀ (n pc : Nat) (ls : zLS) (st : List zV) (M : zM), zrun (tb_X8_isThing kd K) [] n X pc ls st M → X pc ls st M) (c : Int32) (M : zM) (h : ∀ v : Int32, (v = zp (isT c.toInt)) → K (some (zI v)) M) : X 0 [some (zI (c))] [] M := by
  refine vc_X8_isThing_0 hX (fun v h1 => ⟨by rw [h1]; exact zp_01, h v ?_⟩)
  rw [h1]
  refine zp_i ?_
  rw [Int32.toInt_toInt64]
  show (0 ≤ c.toInt ∧ c.toInt ≤ 4) ↔ (0 ≤ c.toInt ∧ c.toInt < 5)
  omega
theorem ms_X8_isThing : zMS 2 yX8_isThing cX8_isThing 1 (some .boolean) sp_X8_isThing := by
  intro d hd
  obtain ⟨d', rfl⟩ : ∃ d', d = d' + 2 := ⟨d - 2, by omega⟩
  refine zmethod (tab := tb_X8_isThing) (cut := []) (by decide) (tk_X8_isThing d' ms_X8_in) ?_
  intro kd as M K h
  unfold sp_X8_isThing at h
  split at h
  · rename_i c
    exact ⟨Nat.le_of_ble_eq_true rfl, fun X hX => mt_X8_isThing hX c M h⟩
  · exact h.elim

set_option maxRecDepth 20000 in
theorem mt_X8_isYear {kd : Nat → Nat} {K : zK} {X : zX} (hX : ∀ (n pc : Nat) (ls : zLS) (st : List zV) (M : zM), zrun (tb_X8_isYear kd K) [] n X pc ls st M → X pc ls st M) (c : Int32) (M : zM) (h : ∀ v : Int32, (v = zp (isY c.toInt)) → K (some (zI v)) M) : X 0 [some (zI (c))] [] M := by
  refine vc_X8_isYear_0 hX (fun v h1 => ⟨by rw [h1]; exact zp_01, h v ?_⟩)
  rw [h1]
  refine zp_i ?_
  rw [Int32.toInt_toInt64]
  exact Iff.rfl
theorem ms_X8_isYear : zMS 2 yX8_isYear cX8_isYear 1 (some .boolean) sp_X8_isYear := by
  intro d hd
  obtain ⟨d', rfl⟩ : ∃ d', d = d' + 2 := ⟨d - 2, by omega⟩
  refine zmethod (tab := tb_X8_isYear) (cut := []) (by decide) (tk_X8_isYear d' ms_X8_in) ?_
  intro kd as M K h
  unfold sp_X8_isYear at h
  split at h
  · rename_i c
    exact ⟨Nat.le_of_ble_eq_true rfl, fun X hX => mt_X8_isYear hX c M h⟩
  · exact h.elim

set_option maxRecDepth 20000 in
theorem mt_X8_isSmall {kd : Nat → Nat} {K : zK} {X : zX} (hX : ∀ (n pc : Nat) (ls : zLS) (st : List zV) (M : zM), zrun (tb_X8_isSmall kd K) [] n X pc ls st M → X pc ls st M) (c : Int32) (M : zM) (h : ∀ v : Int32, (v = zp (isLt c.toInt = true)) → K (some (zI v)) M) : X 0 [some (zI (c))] [] M := by
  refine vc_X8_isSmall_0 hX (fun v h1 => ⟨by rw [h1]; exact zp_01, h v ?_⟩)
  rw [h1]
  refine zp_i ?_
  rw [Int32.toInt_toInt64, isLt_iff]
  exact Iff.rfl
theorem ms_X8_isSmall : zMS 2 yX8_isSmall cX8_isSmall 1 (some .boolean) sp_X8_isSmall := by
  intro d hd
  obtain ⟨d', rfl⟩ : ∃ d', d = d' + 2 := ⟨d - 2, by omega⟩
  refine zmethod (tab := tb_X8_isSmall) (cut := []) (by decide) (tk_X8_isSmall d' ms_X8_in) ?_
  intro kd as M K h
  unfold sp_X8_isSmall at h
  split at h
  · rename_i c
    exact ⟨Nat.le_of_ble_eq_true rfl, fun X hX => mt_X8_isSmall hX c M h⟩
  · exact h.elim

set_option maxRecDepth 20000 in
theorem mt_X8_isFigure {kd : Nat → Nat} {K : zK} {X : zX} (hX : ∀ (n pc : Nat) (ls : zLS) (st : List zV) (M : zM), zrun (tb_X8_isFigure kd K) [] n X pc ls st M → X pc ls st M) (c : Int32) (M : zM) (h : ∀ v : Int32, (v = zp (isFg c.toInt = true)) → K (some (zI v)) M) : X 0 [some (zI (c))] [] M := by
  refine vc_X8_isFigure_0 hX (fun v h1 => ⟨by rw [h1]; exact zp_01, h v ?_⟩)
  rw [h1]
  refine zp_i ?_
  rw [Int32.toInt_toInt64, isFg_iff]
  exact Iff.rfl
theorem ms_X8_isFigure : zMS 2 yX8_isFigure cX8_isFigure 1 (some .boolean) sp_X8_isFigure := by
  intro d hd
  obtain ⟨d', rfl⟩ : ∃ d', d = d' + 2 := ⟨d - 2, by omega⟩
  refine zmethod (tab := tb_X8_isFigure) (cut := []) (by decide) (tk_X8_isFigure d' ms_X8_in) ?_
  intro kd as M K h
  unfold sp_X8_isFigure at h
  split at h
  · rename_i c
    exact ⟨Nat.le_of_ble_eq_true rfl, fun X hX => mt_X8_isFigure hX c M h⟩
  · exact h.elim

set_option maxRecDepth 20000 in
theorem mt_X8_at {kd : Nat → Nat} {K : zK} {X : zX} (hX : ∀ (n pc : Nat) (ls : zLS) (st : List zV) (M : zM), zrun (tb_X8_at kd K) [] n X pc ls st M → X pc ls st M) (c : Int32) (i : Int32) (w : Int32) (M : zM) (h : ((0 ≤ c.toInt ∧ c.toInt < 1000) ∧ (0 ≤ i.toInt ∧ i.toInt < 1000) ∧ 0 ≤ w.toInt ∧ w.toInt < 1000) ∧ ∀ v : Int32, (v.toInt = 6 + 20 * c.toInt + 5 * i.toInt + w.toInt) → K (some (zI v)) M) : X 0 [some (zI (c)), some (zI (i)), some (zI (w))] [] M := by
  obtain ⟨hb, hK⟩ := h
  refine vc_X8_at_0 hX (hK _ ?_)
  simp only [Int32.lt_iff_toInt_lt, Int32.le_iff_toInt_le, ← Int32.toInt_inj, Int32.toInt_add, Int32.toInt_sub, Int32.toInt_mul, Int32.toInt_neg, Int.bmod, Int32.reduceToInt]
  omega
theorem ms_X8_at : zMS 1 yX8_at cX8_at 3 (some .int) sp_X8_at := by
  intro d hd
  obtain ⟨d', rfl⟩ : ∃ d', d = d' + 1 := ⟨d - 1, by omega⟩
  refine zmethod (tab := tb_X8_at) (cut := []) (by decide) (tk_X8_at d' ) ?_
  intro kd as M K h
  unfold sp_X8_at at h
  split at h
  · rename_i c i w
    exact ⟨Nat.le_of_ble_eq_true rfl, fun X hX => mt_X8_at hX c i w M h⟩
  · exact h.elim

set_option maxRecDepth 20000 in
theorem mt_X8_no {kd : Nat → Nat} {K : zK} {X : zX} (hX : ∀ (n pc : Nat) (ls : zLS) (st : List zV) (M : zM), zrun (tb_X8_no kd K) [] n X pc ls st M → X pc ls st M)  (M : zM) (h : (kd 9 = 8) ∧ ∀ v : Int32, (v.toInt = -3) → ∀ M' : zM, (M' = zmw M 9 4 (upd (M.1 9 4) 1 (M.1 9 4 1 + 1))) → K (some (zI v)) M') : X 0 [some (zR 9 0)] [] M := by
  obtain ⟨hk, hK⟩ := h
  have hz : zin (kd 9) 4 0 (1 : Int32) := zin_of (n := 3) (by rw [hk]; rfl) (by decide) (by decide)
  exact vc_X8_no_0 hX hk ⟨hz, hz, fun M1 e1 => hK _ rfl M1 e1⟩
theorem ms_X8_no : zMS 1 yX8_no cX8_no 1 (some .int) sp_X8_no := by
  intro d hd
  obtain ⟨d', rfl⟩ : ∃ d', d = d' + 1 := ⟨d - 1, by omega⟩
  refine zmethod (tab := tb_X8_no) (cut := []) (by decide) (tk_X8_no d' ) ?_
  intro kd as M K h
  unfold sp_X8_no at h
  split at h
  · skip
    exact ⟨Nat.le_of_ble_eq_true rfl, fun X hX => mt_X8_no hX  M h⟩
  · exact h.elim

set_option maxRecDepth 20000 in
theorem mt_X8_full {kd : Nat → Nat} {K : zK} {X : zX} (hX : ∀ (n pc : Nat) (ls : zLS) (st : List zV) (M : zM), zrun (tb_X8_full kd K) [] n X pc ls st M → X pc ls st M)  (M : zM) (h : (kd 9 = 8) ∧ ∀ v : Int32, (v.toInt = -4) → ∀ M' : zM, (M' = zmw M 9 4 (upd (M.1 9 4) 2 (M.1 9 4 2 + 1))) → K (some (zI v)) M') : X 0 [some (zR 9 0)] [] M := by
  obtain ⟨hk, hK⟩ := h
  have hz : zin (kd 9) 4 0 (2 : Int32) := zin_of (n := 3) (by rw [hk]; rfl) (by decide) (by decide)
  exact vc_X8_full_0 hX hk ⟨hz, hz, fun M1 e1 => hK _ rfl M1 e1⟩
theorem ms_X8_full : zMS 1 yX8_full cX8_full 1 (some .int) sp_X8_full := by
  intro d hd
  obtain ⟨d', rfl⟩ : ∃ d', d = d' + 1 := ⟨d - 1, by omega⟩
  refine zmethod (tab := tb_X8_full) (cut := []) (by decide) (tk_X8_full d' ) ?_
  intro kd as M K h
  unfold sp_X8_full at h
  split at h
  · skip
    exact ⟨Nat.le_of_ble_eq_true rfl, fun X hX => mt_X8_full hX  M h⟩
  · exact h.elim

set_option maxRecDepth 20000 in
theorem mt_X8_bad {kd : Nat → Nat} {K : zK} {X : zX} (hX : ∀ (n pc : Nat) (ls : zLS) (st : List zV) (M : zM), zrun (tb_X8_bad kd K) [] n X pc ls st M → X pc ls st M) (w : Int32) (M : zM) (h : (kd 9 = 8) ∧ ∀ v : Int32, (v = w) → ∀ M' : zM, (M' = zmw M 9 4 (upd (M.1 9 4) 0 (M.1 9 4 0 + 1))) → K (some (zI v)) M') : X 0 [some (zR 9 0), some (zI (w))] [] M := by
  obtain ⟨hk, hK⟩ := h
  have hz : zin (kd 9) 4 0 (0 : Int32) := zin_of (n := 3) (by rw [hk]; rfl) (by decide) (by decide)
  exact vc_X8_bad_0 hX hk ⟨hz, hz, fun M1 e1 => hK _ rfl M1 e1⟩
theorem ms_X8_bad : zMS 1 yX8_bad cX8_bad 2 (some .int) sp_X8_bad := by
  intro d hd
  obtain ⟨d', rfl⟩ : ∃ d', d = d' + 1 := ⟨d - 1, by omega⟩
  refine zmethod (tab := tb_X8_bad) (cut := []) (by decide) (tk_X8_bad d' ) ?_
  intro kd as M K h
  unfold sp_X8_bad at h
  split at h
  · rename_i w
    exact ⟨Nat.le_of_ble_eq_true rfl, fun X hX => mt_X8_bad hX w M h⟩
  · exact h.elim

set_option maxRecDepth 20000 in
theorem mt_X8_mayRub {kd : Nat → Nat} {K : zK} {X : zX} (hX : ∀ (n pc : Nat) (ls : zLS) (st : List zV) (M : zM), zrun (tb_X8_mayRub kd K) [] n X pc ls st M → X pc ls st M) (t o : Nat) (c : Int32) (M : zM) (h : (kd t = 8) ∧ (o = 1 ∨ o = 5 ∨ o = 10) ∧ ∃ a : Sk, (RpF (M.1 t o) a) ∧ (isC c.toInt) ∧ ∀ v : Int32, (v = zp (sk_canR a c.toInt = true)) → K (some (zI v)) M) : X 0 [some (zR t o), some (zI (c))] [] M := by
  obtain ⟨hk, ho, a, ha, hc, hK⟩ := h
  have hl := ha.len hc
  have hb := sk_len_b ha.1 hc.1 hc.2
  refine vc_X8_mayRub_0 hX ?_
  rw [z0a]
  refine ⟨z8 hk ho (by omega) (by omega), fun q => hK _ (zp_f ?_).symm, fun q => ?_⟩
  · simp only [Int32.lt_iff_toInt_lt, Int32.le_iff_toInt_le, ← Int32.toInt_inj, Int32.toInt_add, Int32.toInt_sub, Int32.toInt_mul, Int32.toInt_neg, Int.bmod, Int32.reduceToInt] at q
    intro e
    obtain ⟨l, hl1, _⟩ := sk_canR_iff.mp e
    have := sk_top_iff.mp (by rw [hl1]; rfl)
    omega
  · have hm : (M.1 t o c.toNatClampNeg - (1 : Int32)).toInt = sk_len a c.toInt - 1 := by simp only [Int32.lt_iff_toInt_lt, Int32.le_iff_toInt_le, ← Int32.toInt_inj, Int32.toInt_add, Int32.toInt_sub, Int32.toInt_mul, Int32.toInt_neg, Int.bmod, Int32.reduceToInt] at q ⊢; omega
    simp only [Int32.lt_iff_toInt_lt, Int32.le_iff_toInt_le, ← Int32.toInt_inj, Int32.toInt_add, Int32.toInt_sub, Int32.toInt_mul, Int32.toInt_neg, Int.bmod, Int32.reduceToInt] at q
    obtain ⟨l, hl1⟩ := Option.isSome_iff_exists.mp (sk_top_iff (a := a).mpr ⟨hc.1, hc.2, by omega⟩)
    have hat := hl1
    rw [sk_top_at] at hat
    rw [hm]
    refine ⟨z8 hk ho (by omega) (by omega), ⟨by omega, by omega, by decide, by decide⟩, fun v1 h1 => ?_⟩
    have h1' : v1.toInt = 6 + 20 * c.toInt + 5 * (sk_len a c.toInt - 1) + (4 : Nat) := h1
    have hv := ha.ly hat (j := 4) (by decide) h1'
    have hv' : (M.1 t o v1.toNatClampNeg).toInt = l.2.2.2.2 := hv
    refine ⟨z8 hk ho (by omega) (by omega), fun q2 => hK _ (zp_f ?_).symm, fun q2 => hK _ (zp_t ?_).symm⟩
    · intro e
      obtain ⟨l', hl', hlr⟩ := sk_canR_iff.mp e
      rw [hl1] at hl'
      rw [← Option.some.inj hl'] at hlr
      exact q2 (Int32.toInt_inj.mp (by rw [hv', hlr]; rfl))
    · rw [← Int32.toInt_inj, hv'] at q2
      exact sk_canR_iff.mpr ⟨l, hl1, q2⟩
theorem ms_X8_mayRub : zMS 2 yX8_mayRub cX8_mayRub 2 (some .boolean) sp_X8_mayRub := by
  intro d hd
  obtain ⟨d', rfl⟩ : ∃ d', d = d' + 2 := ⟨d - 2, by omega⟩
  refine zmethod (tab := tb_X8_mayRub) (cut := []) (by decide) (tk_X8_mayRub d' ms_X8_at) ?_
  intro kd as M K h
  unfold sp_X8_mayRub at h
  split at h
  · rename_i t o c
    exact ⟨Nat.le_of_ble_eq_true rfl, fun X hX => mt_X8_mayRub hX t o c M h⟩
  · exact h.elim

set_option maxRecDepth 20000 in
theorem mt_X8_mayWrite {kd : Nat → Nat} {K : zK} {X : zX} (hX : ∀ (n pc : Nat) (ls : zLS) (st : List zV) (M : zM), zrun (tb_X8_mayWrite kd K) [] n X pc ls st M → X pc ls st M) (t o : Nat) (c : Int32) (M : zM) (h : (kd t = 8) ∧ (o = 1 ∨ o = 5 ∨ o = 10) ∧ ∃ a : Sk, (RpF (M.1 t o) a) ∧ (isC c.toInt) ∧ ∀ v : Int32, (v = zp (sk_canW a c.toInt = true)) → K (some (zI v)) M) : X 0 [some (zR t o), some (zI (c))] [] M := by
  obtain ⟨hk, ho, a, ha, hc, hK⟩ := h
  have hl := ha.len hc
  have hb := sk_len_b ha.1 hc.1 hc.2
  refine vc_X8_mayWrite_0 hX hk ⟨ho, a, ha, hc, fun v1 h1 => ?_⟩
  rw [z0a]
  refine ⟨fun q => hK _ (zp_f ?_).symm, fun q => ⟨z8 hk ho (by omega) (by omega), fun q2 => hK _ (zp_f ?_).symm, fun q2 => hK _ (zp_t ?_).symm⟩⟩
  · rw [h1, zp_n] at q
    intro e
    rw [(sk_canW_iff.mp e).2.1] at q
    cases q
  · simp only [Int32.lt_iff_toInt_lt, Int32.le_iff_toInt_le, ← Int32.toInt_inj, Int32.toInt_add, Int32.toInt_sub, Int32.toInt_mul, Int32.toInt_neg, Int.bmod, Int32.reduceToInt] at q2
    intro e
    have := (sk_canW_iff.mp e).2.2
    omega
  · rw [h1, zp_0] at q
    simp only [Int32.lt_iff_toInt_lt, Int32.le_iff_toInt_le, ← Int32.toInt_inj, Int32.toInt_add, Int32.toInt_sub, Int32.toInt_mul, Int32.toInt_neg, Int.bmod, Int32.reduceToInt] at q2
    exact sk_canW_iff.mpr ⟨hc, by simpa using q, by omega⟩
theorem ms_X8_mayWrite : zMS 3 yX8_mayWrite cX8_mayWrite 2 (some .boolean) sp_X8_mayWrite := by
  intro d hd
  obtain ⟨d', rfl⟩ : ∃ d', d = d' + 3 := ⟨d - 3, by omega⟩
  refine zmethod (tab := tb_X8_mayWrite) (cut := []) (by decide) (tk_X8_mayWrite d' ms_X8_mayRub) ?_
  intro kd as M K h
  unfold sp_X8_mayWrite at h
  split at h
  · rename_i t o c
    exact ⟨Nat.le_of_ble_eq_true rfl, fun X hX => mt_X8_mayWrite hX t o c M h⟩
  · exact h.elim

set_option maxRecDepth 20000 in
theorem mt_X8_goRub {kd : Nat → Nat} {K : zK} {X : zX} (hX : ∀ (n pc : Nat) (ls : zLS) (st : List zV) (M : zM), zrun (tb_X8_goRub kd K) [] n X pc ls st M → X pc ls st M) (t o : Nat) (c : Int32) (M : zM) (h : (kd t = 8) ∧ (o = 1 ∨ o = 5 ∨ o = 10) ∧ ∃ a : Sk, (RpF (M.1 t o) a) ∧ ∃ l : Ly, (sk_top a c.toInt = some l) ∧ ∀ v : Int32, (v.toInt = a.2 - l.2.2.2.1) → ∀ f : Nat → Int32, (RpF f (sk_rub a c.toInt)) → (∀ j9, 127 ≤ j9 → f j9 = M.1 t o j9) → ∀ M' : zM, (M' = zmw M t o f) → K (some (zI v)) M') : X 0 [some (zR t o), some (zI (c)), none] [] M := by
  obtain ⟨hk, ho, a, ha, l, hl, hK⟩ := h
  obtain ⟨h0, h1, h2⟩ := sk_top_get hl
  have hc : isC c.toInt := ⟨h0, h1⟩
  have hln := ha.len hc
  have hpos := (sk_top_iff.mp (by rw [hl]; rfl)).2.2
  have hb := sk_len_b ha.1 h0 h1
  have hm : (M.1 t o c.toNatClampNeg - (1 : Int32)).toInt = sk_len a c.toInt - 1 := by simp only [Int32.lt_iff_toInt_lt, Int32.le_iff_toInt_le, ← Int32.toInt_inj, Int32.toInt_add, Int32.toInt_sub, Int32.toInt_mul, Int32.toInt_neg, Int.bmod, Int32.reduceToInt]; omega
  have hat := hl
  rw [sk_top_at] at hat
  refine vc_X8_goRub_0 hX ?_
  rw [z0a, hm]
  have z126 : zin (kd t) o 0 (126 : Int32) := z8 hk ho (by decide) (by decide)
  refine ⟨z8 hk ho (by omega) (by omega), ⟨by omega, by omega, by decide, by decide⟩, fun v1 h1 => ?_⟩
  have h1' : v1.toInt = 6 + 20 * c.toInt + 5 * (sk_len a c.toInt - 1) + 4 := h1
  refine ⟨z126, z8 hk ho (by omega) (by omega), fun M2 e2 => ⟨z126, ⟨by omega, by omega, by decide, by decide⟩, fun v3 h3 => ?_⟩⟩
  have h3' : v3.toInt = 6 + 20 * c.toInt + 5 * (sk_len a c.toInt - 1) + (3 : Nat) := h3
  have hw := ha.ly hat (j := 3) (by decide) h3'
  have hw' : (M.1 t o v3.toNatClampNeg).toInt = l.2.2.2.1 := hw
  have hy : (M.1 t o (126 : Int32).toNatClampNeg).toInt = a.2 := ha.2.2
  have hlb := sk_ok_at ha.1 hat
  have hyb := ha.1.1
  refine ⟨z8 hk ho (by omega) (by omega), ?_⟩
  have hr := ha.rub hl (q := v1.toNatClampNeg) (by rw [z_cl]; omega) hy
  refine hK _ ?_ _ hr.1 hr.2 M2 e2
  rw [e2, zmw_at, upd_ne (show (126 : Int32).toNatClampNeg ≠ v1.toNatClampNeg by rw [z_cl, z_cl]; have : (126 : Int32).toInt = 126 := rfl; omega), upd_ne (by rw [z_cl, z_cl]; omega)]
  unfold okLy at hlb
  simp only [Int32.lt_iff_toInt_lt, Int32.le_iff_toInt_le, ← Int32.toInt_inj, Int32.toInt_add, Int32.toInt_sub, Int32.toInt_mul, Int32.toInt_neg, Int.bmod, Int32.reduceToInt]
  omega
theorem ms_X8_goRub : zMS 2 yX8_goRub cX8_goRub 3 (some .int) sp_X8_goRub := by
  intro d hd
  obtain ⟨d', rfl⟩ : ∃ d', d = d' + 2 := ⟨d - 2, by omega⟩
  refine zmethod (tab := tb_X8_goRub) (cut := []) (by decide) (tk_X8_goRub d' ms_X8_at) ?_
  intro kd as M K h
  unfold sp_X8_goRub at h
  split at h
  · rename_i t o c
    exact ⟨Nat.le_of_ble_eq_true rfl, fun X hX => mt_X8_goRub hX t o c M h⟩
  · exact h.elim

set_option maxRecDepth 20000 in
theorem mt_X8_goWrite {kd : Nat → Nat} {K : zK} {X : zX} (hX : ∀ (n pc : Nat) (ls : zLS) (st : List zV) (M : zM), zrun (tb_X8_goWrite kd K) [] n X pc ls st M → X pc ls st M) (t o : Nat) (c : Int32) (k : Int32) (g : Int32) (e : Int32) (M : zM) (h : (kd t = 8) ∧ (o = 1 ∨ o = 5 ∨ o = 10) ∧ ∃ a : Sk, (RpF (M.1 t o) a) ∧ (isC c.toInt) ∧ (sk_canR a c.toInt = false) ∧ (sk_len a c.toInt < 4) ∧ (0 ≤ k.toInt ∧ k.toInt ≤ 5) ∧ (0 ≤ g.toInt ∧ g.toInt ≤ 4) ∧ (e.toInt = 0 ∨ e.toInt = 1) ∧ ∀ v : Int32, (v.toInt = sk_len a c.toInt) → ∀ f : Nat → Int32, (RpF f (sk_wr a c.toInt k.toInt g.toInt e.toInt)) → (∀ j9, 127 ≤ j9 → f j9 = M.1 t o j9) → ∀ M' : zM, (M' = zmw M t o f) → K (some (zI v)) M') : X 0 [some (zR t o), some (zI (c)), some (zI (k)), some (zI (g)), some (zI (e)), none] [] M := by
  obtain ⟨hk, ho, a, ha, hc, hr, hln, hkk, hg, he, hK⟩ := h
  have hl := ha.len hc
  have hb := sk_len_b ha.1 hc.1 hc.2
  have hy : (M.1 t o 126).toInt = a.2 := ha.2.2
  have z126 : zin (kd t) o 0 (126 : Int32) := z8 hk ho (by decide) (by decide)
  have n126 : (126 : Int32).toNatClampNeg = 126 := rfl
  obtain ⟨cn, hcn⟩ : ∃ cn : Nat, c.toInt = cn := ⟨c.toInt.toNat, by omega⟩
  obtain ⟨ln, hlnn⟩ : ∃ ln : Nat, sk_len a c.toInt = ln := ⟨(sk_len a c.toInt).toNat, by omega⟩
  have hcc : c.toNatClampNeg = cn := by rw [z_cl]; omega
  refine vc_X8_goWrite_0 hX ?_
  rw [z0a, hcc]
  rw [hcc] at hl
  rw [hl]
  have zc : zin (kd t) o 0 c := z8 hk ho (by omega) (by omega)
  refine ⟨zc, ⟨by omega, by omega, by decide, by decide⟩, fun v1 h1 => ⟨?_, fun M2 e2 => ⟨⟨by omega, by omega, by decide, by decide⟩, fun v3 h3 => ⟨?_, fun M4 e4 => ⟨⟨by omega, by omega, by decide, by decide⟩, fun v5 h5 => ⟨?_, fun M6 e6 => ⟨⟨by omega, by omega, by decide, by decide⟩, fun v7 h7 => ⟨z126, ?_, fun M8 e8 => ⟨⟨by omega, by omega, by decide, by decide⟩, fun v9 h9 => ⟨?_, fun M10 e10 => ⟨zc, zc, fun M11 e11 => ?_⟩⟩⟩⟩⟩⟩⟩⟩⟩⟩⟩
  · have h1' : v1.toInt = 6 + 20 * c.toInt + 5 * sk_len a c.toInt + 0 := h1
    exact z8 hk ho (by omega) (by omega)
  · have h1' : v3.toInt = 6 + 20 * c.toInt + 5 * sk_len a c.toInt + 1 := h3
    exact z8 hk ho (by omega) (by omega)
  · have h1' : v5.toInt = 6 + 20 * c.toInt + 5 * sk_len a c.toInt + 2 := h5
    exact z8 hk ho (by omega) (by omega)
  · have h1' : v7.toInt = 6 + 20 * c.toInt + 5 * sk_len a c.toInt + 3 := h7
    exact z8 hk ho (by omega) (by omega)
  · have h1' : v9.toInt = 6 + 20 * c.toInt + 5 * sk_len a c.toInt + 4 := h9
    exact z8 hk ho (by omega) (by omega)
  · have g1 : v1.toNatClampNeg = 6 + 20 * cn + 5 * ln + 0 := by
      have h1' : v1.toInt = 6 + 20 * c.toInt + 5 * sk_len a c.toInt + 0 := h1
      rw [z_cl]; omega
    have g3 : v3.toNatClampNeg = 6 + 20 * cn + 5 * ln + 1 := by
      have h1' : v3.toInt = 6 + 20 * c.toInt + 5 * sk_len a c.toInt + 1 := h3
      rw [z_cl]; omega
    have g5 : v5.toNatClampNeg = 6 + 20 * cn + 5 * ln + 2 := by
      have h1' : v5.toInt = 6 + 20 * c.toInt + 5 * sk_len a c.toInt + 2 := h5
      rw [z_cl]; omega
    have g7 : v7.toNatClampNeg = 6 + 20 * cn + 5 * ln + 3 := by
      have h1' : v7.toInt = 6 + 20 * c.toInt + 5 * sk_len a c.toInt + 3 := h7
      rw [z_cl]; omega
    have g9 : v9.toNatClampNeg = 6 + 20 * cn + 5 * ln + 4 := by
      have h1' : v9.toInt = 6 + 20 * c.toInt + 5 * sk_len a c.toInt + 4 := h9
      rw [z_cl]; omega
    rw [g1] at e2
    rw [g3, e2, zmw_at, zmw_mw] at e4
    rw [g5, e4, zmw_at, zmw_mw] at e6
    rw [g7, n126, e6, zmw_at, zmw_mw] at e8
    rw [g9, e8, zmw_at, zmw_mw] at e10
    rw [e10, zmw_at, zmw_mw] at e11
    refine hK _ hl _ (ha.wr (k := k.toInt) (g := g.toInt) (e := e.toInt) hc.1 hc.2 hr hln hkk hg he (q := 6 + 20 * cn + 5 * ln) (by omega) ?_ ?_ ?_) ?_ M11 e11
    · rw [show c.toInt.toNat = cn by omega, upd_at, upd_ne (by omega), upd_ne (by omega), upd_ne (by omega), upd_ne (by omega), upd_ne (by omega)]
      rw [z_add (by rw [hl]; show _ ≤ _ + (1 : Int); omega) (by rw [hl]; show _ + (1 : Int) < _; omega), hl]
      rfl
    · intro j hj
      rw [upd_ne (by omega)]
      rcases (show j = 0 ∨ j = 1 ∨ j = 2 ∨ j = 3 ∨ j = 4 by omega) with rfl | rfl | rfl | rfl | rfl
      · rw [upd_ne (by omega), upd_ne (by omega), upd_ne (by omega), upd_ne (by omega), upd_at]; rfl
      · rw [upd_ne (by omega), upd_ne (by omega), upd_ne (by omega), upd_at]; rfl
      · rw [upd_ne (by omega), upd_ne (by omega), upd_at]; rfl
      · rw [upd_ne (by omega), upd_at, upd_ne (by omega), upd_ne (by omega), upd_ne (by omega)]; exact hy
      · rw [upd_at]; rfl
    · intro m hm1 hm2
      rw [upd_ne (by omega), upd_ne (by omega), upd_ne (by omega), upd_ne (by omega), upd_ne (by omega), upd_ne (by omega)]
    · intro m hm
      rw [upd_ne (by omega), upd_ne (by omega), upd_ne (by omega), upd_ne (by omega), upd_ne (by omega), upd_ne (by omega)]
theorem ms_X8_goWrite : zMS 2 yX8_goWrite cX8_goWrite 6 (some .int) sp_X8_goWrite := by
  intro d hd
  obtain ⟨d', rfl⟩ : ∃ d', d = d' + 2 := ⟨d - 2, by omega⟩
  refine zmethod (tab := tb_X8_goWrite) (cut := []) (by decide) (tk_X8_goWrite d' ms_X8_at) ?_
  intro kd as M K h
  unfold sp_X8_goWrite at h
  split at h
  · rename_i t o c k g e
    exact ⟨Nat.le_of_ble_eq_true rfl, fun X hX => mt_X8_goWrite hX t o c k g e M h⟩
  · exact h.elim

theorem RpF.yr {f : Nat → Int32} {a : Sk} (h : RpF f a) {n : Int} (hn : 0 ≤ n) {x : Int32} (hx : x.toInt = (sk_yr a n).2) : RpF (upd f 126 x) (sk_yr a n) := by
  refine ⟨sk_yr_ok h.1 hn, fun d hd => ?_, by rw [upd_at]; exact hx⟩
  have hd4 := (h.1.2 d hd).1
  refine ⟨by rw [upd_ne (by omega)]; exact (h.2.1 d hd).1, fun i l hl j hj => ?_⟩
  have hi := (List.getElem?_eq_some_iff.mp hl).1
  have hi2 : i < (a.1 d).length := hi
  rw [upd_ne (by omega)]
  exact (h.2.1 d hd).2 i l hl j hj
set_option maxRecDepth 20000 in
theorem mt_X8_goYears {kd : Nat → Nat} {K : zK} {X : zX} (hX : ∀ (n pc : Nat) (ls : zLS) (st : List zV) (M : zM), zrun (tb_X8_goYears kd K) [] n X pc ls st M → X pc ls st M) (t o : Nat) (n : Int32) (M : zM) (h : (kd t = 8) ∧ (o = 1 ∨ o = 5 ∨ o = 10) ∧ ∃ a : Sk, (RpF (M.1 t o) a) ∧ (0 ≤ n.toInt ∧ n.toInt ≤ 99) ∧ ∀ f : Nat → Int32, (RpF f (sk_yr a n.toInt)) → (∀ j9, 127 ≤ j9 → f j9 = M.1 t o j9) → ∀ M' : zM, (M' = zmw M t o f) → K none M') : X 0 [some (zR t o), some (zI (n))] [] M := by
  obtain ⟨hk, ho, a, ha, hn, hK⟩ := h
  have z126 : zin (kd t) o 0 (126 : Int32) := z8 hk ho (by decide) (by decide)
  have n126 : (126 : Int32).toNatClampNeg = 126 := rfl
  have hy : (M.1 t o 126).toInt = a.2 := ha.2.2
  have hyb := ha.1.1
  have hs : (M.1 t o 126 + n).toInt = a.2 + n.toInt := by simp only [Int32.lt_iff_toInt_lt, Int32.le_iff_toInt_le, ← Int32.toInt_inj, Int32.toInt_add, Int32.toInt_sub, Int32.toInt_mul, Int32.toInt_neg, Int.bmod, Int32.reduceToInt]; omega
  refine vc_X8_goYears_0 hX ?_
  rw [n126]
  refine ⟨z126, fun q => ⟨z126, z126, fun M1 e1 => hK _ (ha.yr hn.1 ?_) (fun k hk => upd_ne (by omega)) M1 e1⟩, fun q => ⟨z126, fun M2 e2 => hK _ (ha.yr hn.1 ?_) (fun k hk => upd_ne (by omega)) M2 e2⟩⟩
  · rw [Int32.le_iff_toInt_le, hs] at q
    have q' : a.2 + n.toInt ≤ 999 := q
    unfold sk_yr
    rw [hs]
    simp only
    rw [if_neg (by omega)]
  · rw [Int32.le_iff_toInt_le, hs] at q
    have q' : ¬ a.2 + n.toInt ≤ 999 := q
    unfold sk_yr
    show (999 : Int) = _
    rw [if_pos (by omega)]
theorem ms_X8_goYears : zMS 1 yX8_goYears cX8_goYears 2 none sp_X8_goYears := by
  intro d hd
  obtain ⟨d', rfl⟩ : ∃ d', d = d' + 1 := ⟨d - 1, by omega⟩
  refine zmethod (tab := tb_X8_goYears) (cut := []) (by decide) (tk_X8_goYears d' ) ?_
  intro kd as M K h
  unfold sp_X8_goYears at h
  split at h
  · rename_i t o n
    exact ⟨Nat.le_of_ble_eq_true rfl, fun X hX => mt_X8_goYears hX t o n M h⟩
  · exact h.elim

set_option maxRecDepth 20000 in
theorem mt_X8_allLayers {kd : Nat → Nat} {K : zK} {X : zX} (hX : ∀ (n pc : Nat) (ls : zLS) (st : List zV) (M : zM), zrun (tb_X8_allLayers kd K) [(4, [])] n X pc ls st M → X pc ls st M) (t o : Nat) (M : zM) (h : (kd t = 8) ∧ (o = 1 ∨ o = 5 ∨ o = 10) ∧ ∃ a : Sk, (RpF (M.1 t o) a) ∧ ∀ v : Int32, (v.toInt = sk_all a) → K (some (zI v)) M) : X 0 [some (zR t o), none, none] [] M := by
  obtain ⟨hk, ho, a, ha, hK⟩ := h
  refine vc_X8_allLayers_0 hX (up (N := 6) (Q := fun j => ∀ (s c : Int32), c.toInt = j → s.toInt = zsm (fun k => ((a.1 k).length : Int)) j → X 4 [some (zR t o), some (zI s), some (zI c)] [] M) (fun s c hc hs => ?_) (fun j hj ih s c hc hs => ?_) 0 (by omega) 0 0 rfl rfl)
  · exact vc_X8_allLayers_4 hX ⟨fun _ => hK s hs, fun q => by simp only [Int32.lt_iff_toInt_lt, Int32.le_iff_toInt_le, ← Int32.toInt_inj, Int32.toInt_add, Int32.toInt_sub, Int32.toInt_mul, Int32.toInt_neg, Int.bmod, Int32.reduceToInt] at q; omega⟩
  · refine vc_X8_allLayers_4 hX ⟨fun q => by simp only [Int32.lt_iff_toInt_lt, Int32.le_iff_toInt_le, ← Int32.toInt_inj, Int32.toInt_add, Int32.toInt_sub, Int32.toInt_mul, Int32.toInt_neg, Int.bmod, Int32.reduceToInt] at q; omega, fun _ => ?_⟩
    rw [z0a]
    have hcn : c.toNatClampNeg = j := by rw [z_cl]; omega
    have hl := (ha.2.1 j hj).1
    have h4 := (ha.1.2 j hj).1
    have hb := zsm_b (f := fun k => if k < 6 then ((a.1 k).length : Int) else 0) (lo := 0) (hi := 4) (fun k => by
      by_cases h6 : k < 6
      · have := (ha.1.2 k h6).1
        simp only [if_pos h6]; omega
      · simp only [if_neg h6]; omega) j
    rw [zsm_c (g := fun k => ((a.1 k).length : Int)) (fun k hk => by simp only [if_pos (show k < 6 by omega)])] at hb
    refine ⟨z8 hk ho (by omega) (by omega), ih _ (c + 1) (z_inc hc (by omega)) ?_⟩
    rw [hcn, zsm_s]
    simp only [Int32.lt_iff_toInt_lt, Int32.le_iff_toInt_le, ← Int32.toInt_inj, Int32.toInt_add, Int32.toInt_sub, Int32.toInt_mul, Int32.toInt_neg, Int.bmod, Int32.reduceToInt]
    omega
theorem ms_X8_allLayers : zMS 1 yX8_allLayers cX8_allLayers 3 (some .int) sp_X8_allLayers := by
  intro d hd
  obtain ⟨d', rfl⟩ : ∃ d', d = d' + 1 := ⟨d - 1, by omega⟩
  refine zmethod (tab := tb_X8_allLayers) (cut := [(4, [])]) (by decide) (tk_X8_allLayers d' ) ?_
  intro kd as M K h
  unfold sp_X8_allLayers at h
  split at h
  · rename_i t o
    exact ⟨Nat.le_of_ble_eq_true rfl, fun X hX => mt_X8_allLayers hX t o M h⟩
  · exact h.elim

