set_option maxRecDepth 20000 in
theorem mt_X7_isCell {kd : Nat → Nat} {K : zK} {X : zX} (hX : ∀ (n pc : Nat) (ls : zLS) (st : List zV) (M : zM), zrun (tb_X7_isCell kd K) [] n X pc ls st M → X pc ls st M) (c : Int32) (M : zM) (h : ∀ v : Int32, (v = zp (0 ≤ c.toInt ∧ c.toInt < 6)) → K (some (zI v)) M) : X 0 [some (zI (c))] [] M := by
  refine vc_X7_isCell_0 hX ?_
  refine ⟨fun h1 => h _ (zp_f ?_).symm, fun h1 => ⟨fun h2 => h _ (zp_f ?_).symm, fun h2 => h _ (zp_t ?_).symm⟩⟩ <;> simp only [Int32.lt_iff_toInt_lt, Int32.le_iff_toInt_le, ← Int32.toInt_inj, Int32.toInt_add, Int32.toInt_sub, Int32.toInt_mul, Int32.toInt_neg, Int.bmod, Int32.reduceToInt] at * <;> omega
theorem ms_X7_isCell : zMS 1 yX7_isCell cX7_isCell 1 (some .boolean) sp_X7_isCell := by
  intro d hd
  obtain ⟨d', rfl⟩ : ∃ d', d = d' + 1 := ⟨d - 1, by omega⟩
  refine zmethod (tab := tb_X7_isCell) (cut := []) (by decide) (tk_X7_isCell d' ) ?_
  intro kd as M K h
  unfold sp_X7_isCell at h
  split at h
  · rename_i c
    exact ⟨Nat.le_of_ble_eq_true rfl, fun X hX => mt_X7_isCell hX c M h⟩
  · exact h.elim

set_option maxRecDepth 20000 in
theorem mt_X7_cellOf {kd : Nat → Nat} {K : zK} {X : zX} (hX : ∀ (n pc : Nat) (ls : zLS) (st : List zV) (M : zM), zrun (tb_X7_cellOf kd K) [] n X pc ls st M → X pc ls st M) (w : Int32) (M : zM) (h : ∀ v : Int32, (v = if w < 10 then w else w - 10) → K (some (zI v)) M) : X 0 [some (zI (w))] [] M := by
  refine vc_X7_cellOf_0 hX ?_
  refine ⟨fun h1 => h _ ?_, fun h1 => h _ ?_⟩
  · rw [if_neg]; simp only [Int32.lt_iff_toInt_lt, Int32.le_iff_toInt_le, ← Int32.toInt_inj, Int32.toInt_add, Int32.toInt_sub, Int32.toInt_mul, Int32.toInt_neg, Int.bmod, Int32.reduceToInt] at *; omega
  · rw [if_pos]; simp only [Int32.lt_iff_toInt_lt, Int32.le_iff_toInt_le, ← Int32.toInt_inj, Int32.toInt_add, Int32.toInt_sub, Int32.toInt_mul, Int32.toInt_neg, Int.bmod, Int32.reduceToInt] at *; omega
theorem ms_X7_cellOf : zMS 1 yX7_cellOf cX7_cellOf 1 (some .int) sp_X7_cellOf := by
  intro d hd
  obtain ⟨d', rfl⟩ : ∃ d', d = d' + 1 := ⟨d - 1, by omega⟩
  refine zmethod (tab := tb_X7_cellOf) (cut := []) (by decide) (tk_X7_cellOf d' ) ?_
  intro kd as M K h
  unfold sp_X7_cellOf at h
  split at h
  · rename_i w
    exact ⟨Nat.le_of_ble_eq_true rfl, fun X hX => mt_X7_cellOf hX w M h⟩
  · exact h.elim

set_option maxRecDepth 20000 in
theorem mt_X3_slot {kd : Nat → Nat} {K : zK} {X : zX} (hX : ∀ (n pc : Nat) (ls : zLS) (st : List zV) (M : zM), zrun (tb_X3_slot kd K) [] n X pc ls st M → X pc ls st M) (t : Nat) (c : Int32) (i : Int32) (M : zM) (h : (kd t = 3) ∧ ∃ a : Sk, (RpS (M.1 t) a) ∧ ∀ v : Int32, (v.toInt = if (sk_at a c.toInt i.toInt).isSome then 4 * c.toInt + i.toInt else -1) → K (some (zI v)) M) : X 0 [some (zR t 0), some (zI (c)), some (zI (i))] [] M := by
  obtain ⟨hk, a, ha, hK⟩ := h
  refine vc_X3_slot_0 hX hk ?_
  have no : ¬ (0 ≤ c.toInt ∧ c.toInt < 6 ∧ 0 ≤ i.toInt ∧ i.toInt < sk_len a c.toInt) → K (some (zI (-1))) M := fun q => hK _ (by rw [if_neg (fun q' => q (sk_at_iff.mp q'))]; rfl)
  refine ⟨fun h1 => no ?_, fun h1 => ⟨fun h2 => no ?_, fun h2 => ⟨fun h3 => no ?_, fun h3 => ⟨fun h4 => no ?_, fun h4 => ?_⟩⟩⟩⟩
  · simp only [Int32.lt_iff_toInt_lt, Int32.le_iff_toInt_le, ← Int32.toInt_inj, Int32.toInt_add, Int32.toInt_sub, Int32.toInt_mul, Int32.toInt_neg, Int.bmod, Int32.reduceToInt] at h1; omega
  · simp only [Int32.lt_iff_toInt_lt, Int32.le_iff_toInt_le, ← Int32.toInt_inj, Int32.toInt_add, Int32.toInt_sub, Int32.toInt_mul, Int32.toInt_neg, Int.bmod, Int32.reduceToInt] at h2; omega
  · simp only [Int32.lt_iff_toInt_lt, Int32.le_iff_toInt_le, ← Int32.toInt_inj, Int32.toInt_add, Int32.toInt_sub, Int32.toInt_mul, Int32.toInt_neg, Int.bmod, Int32.reduceToInt] at h3; omega
  · rintro ⟨q1, q2, q3, q4⟩
    have := sk_len_b ha.1 q1 q2
    simp only [Int32.lt_iff_toInt_lt, Int32.le_iff_toInt_le, ← Int32.toInt_inj, Int32.toInt_add, Int32.toInt_sub, Int32.toInt_mul, Int32.toInt_neg, Int.bmod, Int32.reduceToInt] at h4; omega
  · simp only [Int32.lt_iff_toInt_lt, Int32.le_iff_toInt_le, ← Int32.toInt_inj, Int32.toInt_add, Int32.toInt_sub, Int32.toInt_mul, Int32.toInt_neg, Int.bmod, Int32.reduceToInt] at h1 h2 h3 h4
    have hl := ha.h (c := c) (by omega) (by omega)
    refine ⟨zin_of (by rw [hk]; rfl) (by omega) (by omega), fun h5 => hK _ ?_, fun h5 => no ?_⟩
    · simp only [Int32.lt_iff_toInt_lt, Int32.le_iff_toInt_le, ← Int32.toInt_inj, Int32.toInt_add, Int32.toInt_sub, Int32.toInt_mul, Int32.toInt_neg, Int.bmod, Int32.reduceToInt] at h5
      rw [if_pos (sk_at_iff.mpr ⟨by omega, by omega, by omega, by omega⟩)]
      simp only [Int32.lt_iff_toInt_lt, Int32.le_iff_toInt_le, ← Int32.toInt_inj, Int32.toInt_add, Int32.toInt_sub, Int32.toInt_mul, Int32.toInt_neg, Int.bmod, Int32.reduceToInt]
      omega
    · simp only [Int32.lt_iff_toInt_lt, Int32.le_iff_toInt_le, ← Int32.toInt_inj, Int32.toInt_add, Int32.toInt_sub, Int32.toInt_mul, Int32.toInt_neg, Int.bmod, Int32.reduceToInt] at h5
      omega
theorem ms_X3_slot : zMS 1 yX3_slot cX3_slot 3 (some .int) sp_X3_slot := by
  intro d hd
  obtain ⟨d', rfl⟩ : ∃ d', d = d' + 1 := ⟨d - 1, by omega⟩
  refine zmethod (tab := tb_X3_slot) (cut := []) (by decide) (tk_X3_slot d' ) ?_
  intro kd as M K h
  unfold sp_X3_slot at h
  split at h
  · rename_i t c i
    exact ⟨Nat.le_of_ble_eq_true rfl, fun X hX => mt_X3_slot hX t c i M h⟩
  · exact h.elim

set_option maxRecDepth 20000 in
theorem mt_X3_has {kd : Nat → Nat} {K : zK} {X : zX} (hX : ∀ (n pc : Nat) (ls : zLS) (st : List zV) (M : zM), zrun (tb_X3_has kd K) [] n X pc ls st M → X pc ls st M) (t : Nat) (c : Int32) (i : Int32) (M : zM) (h : (kd t = 3) ∧ ∃ a : Sk, (RpS (M.1 t) a) ∧ ∀ v : Int32, (v = zp ((sk_at a c.toInt i.toInt).isSome = true)) → K (some (zI v)) M) : X 0 [some (zR t 0), some (zI (c)), some (zI (i))] [] M := by
  obtain ⟨hk, a, ha, hK⟩ := h
  refine vc_X3_has_0 hX hk ⟨a, ha, fun v1 hv1 => ⟨fun h1 => hK _ (zp_f ?_).symm, fun h1 => hK _ (zp_t ?_).symm⟩⟩
  · intro q
    rw [if_pos q] at hv1
    have := sk_at_iff.mp q
    simp only [Int32.lt_iff_toInt_lt, Int32.le_iff_toInt_le, ← Int32.toInt_inj, Int32.toInt_add, Int32.toInt_sub, Int32.toInt_mul, Int32.toInt_neg, Int.bmod, Int32.reduceToInt] at h1
    omega
  · by_cases q : (sk_at a c.toInt i.toInt).isSome = true
    · exact q
    · rw [if_neg q] at hv1
      exact absurd (Int32.toInt_inj.mp hv1) h1
theorem ms_X3_has : zMS 2 yX3_has cX3_has 3 (some .boolean) sp_X3_has := by
  intro d hd
  obtain ⟨d', rfl⟩ : ∃ d', d = d' + 2 := ⟨d - 2, by omega⟩
  refine zmethod (tab := tb_X3_has) (cut := []) (by decide) (tk_X3_has d' ms_X3_slot) ?_
  intro kd as M K h
  unfold sp_X3_has at h
  split at h
  · rename_i t c i
    exact ⟨Nat.le_of_ble_eq_true rfl, fun X hX => mt_X3_has hX t c i M h⟩
  · exact h.elim

set_option maxRecDepth 20000 in
theorem mt_X3_topmost {kd : Nat → Nat} {K : zK} {X : zX} (hX : ∀ (n pc : Nat) (ls : zLS) (st : List zV) (M : zM), zrun (tb_X3_topmost kd K) [] n X pc ls st M → X pc ls st M) (t : Nat) (c : Int32) (M : zM) (h : (kd t = 3) ∧ ∃ a : Sk, (RpS (M.1 t) a) ∧ ∀ v : Int32, (v.toInt = if (sk_top a c.toInt).isSome then 4 * c.toInt + sk_len a c.toInt - 1 else -1) → K (some (zI v)) M) : X 0 [some (zR t 0), some (zI (c))] [] M := by
  obtain ⟨hk, a, ha, hK⟩ := h
  refine vc_X3_topmost_0 hX hk (fun v1 hv1 => ⟨fun h1 => hK _ ?_, fun h1 => ?_⟩)
  · rw [hv1, zp_0] at h1
    rw [if_neg (fun q => h1 (by have := sk_top_iff.mp q; omega))]; rfl
  · rw [hv1, zp_n] at h1
    have hl := ha.h h1.1 h1.2
    have hb := sk_len_b ha.1 h1.1 h1.2
    refine ⟨zin_of (by rw [hk]; rfl) h1.1 h1.2, a, ha, fun v2 hv2 => hK _ ?_⟩
    have e : ((M.1 t 1 c.toNatClampNeg) - (1 : Int32)).toInt = sk_len a c.toInt - 1 := by simp only [Int32.lt_iff_toInt_lt, Int32.le_iff_toInt_le, ← Int32.toInt_inj, Int32.toInt_add, Int32.toInt_sub, Int32.toInt_mul, Int32.toInt_neg, Int.bmod, Int32.reduceToInt]; omega
    rw [hv2, e, ← sk_top_at]
    split <;> omega
theorem ms_X3_topmost : zMS 2 yX3_topmost cX3_topmost 2 (some .int) sp_X3_topmost := by
  intro d hd
  obtain ⟨d', rfl⟩ : ∃ d', d = d' + 2 := ⟨d - 2, by omega⟩
  refine zmethod (tab := tb_X3_topmost) (cut := []) (by decide) (tk_X3_topmost d' ms_X7_isCell ms_X3_slot) ?_
  intro kd as M K h
  unfold sp_X3_topmost at h
  split at h
  · rename_i t c
    exact ⟨Nat.le_of_ble_eq_true rfl, fun X hX => mt_X3_topmost hX t c M h⟩
  · exact h.elim

/-- the slot of the topmost layer -/
theorem sk_topq {a : Sk} {c : Int32} {q : Int32} (hq : q.toInt = if (sk_top a c.toInt).isSome then 4 * c.toInt + sk_len a c.toInt - 1 else -1) : (q = -1 ∧ sk_top a c.toInt = none) ∨ (¬ q = -1 ∧ ∃ l, sk_top a c.toInt = some l ∧ (0 ≤ c.toInt ∧ c.toInt < 6 ∧ 0 < sk_len a c.toInt) ∧ q.toInt = 4 * c.toInt + (sk_len a c.toInt - 1)) := by
  cases h : sk_top a c.toInt with
  | none => left; rw [h] at hq; exact ⟨Int32.toInt_inj.mp hq, rfl⟩
  | some l =>
    right
    have h2 := sk_top_iff.mp (by rw [h]; rfl : (sk_top a c.toInt).isSome = true)
    rw [h] at hq
    simp at hq
    refine ⟨fun e => ?_, l, rfl, h2, by omega⟩
    rw [e] at hq
    simp at hq
    omega
theorem RpS.top {S : zB} {a : Sk} (h : RpS S a) {c : Int32} {l : Ly} (hl : sk_top a c.toInt = some l) {q : Int32} (hq : q.toInt = 4 * c.toInt + (sk_len a c.toInt - 1)) : lyS S q.toNatClampNeg l := h.ly (by rw [← sk_top_at]; exact hl) hq
set_option maxRecDepth 20000 in
theorem mt_X3_canScrape {kd : Nat → Nat} {K : zK} {X : zX} (hX : ∀ (n pc : Nat) (ls : zLS) (st : List zV) (M : zM), zrun (tb_X3_canScrape kd K) [] n X pc ls st M → X pc ls st M) (t : Nat) (c : Int32) (M : zM) (h : (kd t = 3) ∧ ∃ a : Sk, (RpS (M.1 t) a) ∧ ∀ v : Int32, (v = zp (sk_canR a c.toInt = true)) → K (some (zI v)) M) : X 0 [some (zR t 0), some (zI (c)), none] [] M := by
  obtain ⟨hk, a, ha, hK⟩ := h
  refine vc_X3_canScrape_0 hX hk ⟨a, ha, fun v1 hv1 => ?_⟩
  rcases sk_topq hv1 with ⟨e1, e2⟩ | ⟨e1, l, e2, e3, e4⟩
  · exact ⟨fun _ => hK _ (zp_f (by simp [sk_canR, e2])).symm, fun q => absurd e1 q⟩
  · have hb := sk_len_b ha.1 e3.1 e3.2.1
    obtain ⟨-, -, -, -, hr⟩ := ha.top e2 e4
    refine ⟨fun q => absurd q e1, fun _ => ⟨zin_of (by rw [hk]; rfl) (by omega) (by omega), fun h1 => hK _ (zp_f ?_).symm, fun h1 => hK _ (zp_t ?_).symm⟩⟩
    · rw [← Int32.toInt_inj, hr] at h1; simpa [sk_canR, e2] using h1
    · rw [← Int32.toInt_inj, hr] at h1; simpa [sk_canR, e2] using h1
theorem ms_X3_canScrape : zMS 3 yX3_canScrape cX3_canScrape 3 (some .boolean) sp_X3_canScrape := by
  intro d hd
  obtain ⟨d', rfl⟩ : ∃ d', d = d' + 3 := ⟨d - 3, by omega⟩
  refine zmethod (tab := tb_X3_canScrape) (cut := []) (by decide) (tk_X3_canScrape d' ms_X3_topmost) ?_
  intro kd as M K h
  unfold sp_X3_canScrape at h
  split at h
  · rename_i t c
    exact ⟨Nat.le_of_ble_eq_true rfl, fun X hX => mt_X3_canScrape hX t c M h⟩
  · exact h.elim

set_option maxRecDepth 20000 in
theorem mt_X3_canCover {kd : Nat → Nat} {K : zK} {X : zX} (hX : ∀ (n pc : Nat) (ls : zLS) (st : List zV) (M : zM), zrun (tb_X3_canCover kd K) [] n X pc ls st M → X pc ls st M) (t : Nat) (c : Int32) (M : zM) (h : (kd t = 3) ∧ ∃ a : Sk, (RpS (M.1 t) a) ∧ ∀ v : Int32, (v = zp (sk_canW a c.toInt = true)) → K (some (zI v)) M) : X 0 [some (zR t 0), some (zI (c)), none] [] M := by
  obtain ⟨hk, a, ha, hK⟩ := h
  refine vc_X3_canCover_0 hX hk ⟨a, ha, fun v1 hv1 v2 hv2 => ⟨fun h1 => hK _ (zp_f ?_).symm, fun h1 => ?_⟩⟩
  · rw [hv2, zp_0] at h1
    rw [sk_canW_iff]; exact fun q => h1 q.1
  · rw [hv2, zp_n] at h1
    have hl := ha.h h1.1 h1.2
    have hb := sk_len_b ha.1 h1.1 h1.2
    refine ⟨zin_of (by rw [hk]; rfl) h1.1 h1.2, fun h2 => hK _ (zp_f ?_).symm, fun h2 => ?_⟩
    · rw [sk_canW_iff]
      simp only [Int32.lt_iff_toInt_lt, Int32.le_iff_toInt_le, ← Int32.toInt_inj, Int32.toInt_add, Int32.toInt_sub, Int32.toInt_mul, Int32.toInt_neg, Int.bmod, Int32.reduceToInt] at h2
      omega
    · simp only [Int32.lt_iff_toInt_lt, Int32.le_iff_toInt_le, ← Int32.toInt_inj, Int32.toInt_add, Int32.toInt_sub, Int32.toInt_mul, Int32.toInt_neg, Int.bmod, Int32.reduceToInt] at h2
      rcases sk_topq hv1 with ⟨e1, e2⟩ | ⟨e1, l, e2, e3, e4⟩
      · exact ⟨fun _ => hK _ (zp_t (sk_canW_iff.mpr ⟨h1, by simp [sk_canR, e2], by omega⟩)).symm, fun q => absurd e1 q⟩
      · obtain ⟨-, -, -, -, hr⟩ := ha.top e2 e4
        refine ⟨fun q => absurd q e1, fun _ => ⟨zin_of (by rw [hk]; rfl) (by omega) (by omega), fun h3 => hK _ (zp_f ?_).symm, fun h3 => hK _ (zp_t ?_).symm⟩⟩
        · rw [← Int32.toInt_inj, hr] at h3
          rw [sk_canW_iff]
          intro q
          have := q.2.1
          simp [sk_canR, e2] at this
          exact this h3
        · rw [← Int32.toInt_inj, hr] at h3
          exact sk_canW_iff.mpr ⟨h1, by simpa [sk_canR, e2] using h3, by omega⟩
theorem ms_X3_canCover : zMS 3 yX3_canCover cX3_canCover 3 (some .boolean) sp_X3_canCover := by
  intro d hd
  obtain ⟨d', rfl⟩ : ∃ d', d = d' + 3 := ⟨d - 3, by omega⟩
  refine zmethod (tab := tb_X3_canCover) (cut := []) (by decide) (tk_X3_canCover d' ms_X3_topmost ms_X7_isCell) ?_
  intro kd as M K h
  unfold sp_X3_canCover at h
  split at h
  · rename_i t c
    exact ⟨Nat.le_of_ble_eq_true rfl, fun X hX => mt_X3_canCover hX t c M h⟩
  · exact h.elim

/-- what a skin's block holds when one slot's numbers are put and the height of its cell, the rest as it was -/
theorem RpS.wr {S S' : zB} {a : Sk} (h : RpS S a) {c : Nat} {k th le : Int} (hc : c < 6) (hlen : (a.1 c).length < 4) (hok : okSk (sk_wr a c k th le)) (h1 : ∀ c', (S' 1 c').toInt = if c' = c then ((a.1 c).length : Int) + 1 else (S 1 c').toInt)
    (h2 : ∀ o q, 2 ≤ o → o ≤ 6 → q ≠ 4 * c + (a.1 c).length → S' o q = S o q) (h3 : lyS S' (4 * c + (a.1 c).length) (k, th, le, a.2, -1)) (h4 : S' 0 6 = S 0 6) : RpS S' (sk_wr a c k th le) := by
  have e : sk_wr a c k th le = sk_upd a c (a.1 c ++ [(k, th, le, a.2, -1)]) := by unfold sk_wr sk_len; rw [if_pos (by rw [Int.toNat_natCast]; omega), Int.toNat_natCast]
  refine ⟨hok, fun c' hc' => ?_, by rw [h4, h.2.2, e]; rfl⟩
  rw [e]
  have hcell : (sk_upd a c (a.1 c ++ [(k, th, le, a.2, -1)])).1 c' = if c' = c then a.1 c ++ [(k, th, le, a.2, -1)] else a.1 c' := rfl
  rw [hcell, h1]
  have hc4 := (h.1.2 c' hc').1
  by_cases hcc : c' = c
  · subst hcc
    rw [if_pos rfl, if_pos rfl]
    refine ⟨by simp, fun i l hl => ?_⟩
    rw [List.getElem?_append] at hl
    split at hl
    · rename_i hi
      obtain ⟨q1, q2, q3, q4, q5⟩ := (h.2.1 c' hc').2 i l hl
      have hne : 4 * c' + i ≠ 4 * c' + (a.1 c').length := by omega
      exact ⟨by rw [h2 2 _ (by omega) (by omega) hne]; exact q1, by rw [h2 3 _ (by omega) (by omega) hne]; exact q2, by rw [h2 4 _ (by omega) (by omega) hne]; exact q3, by rw [h2 5 _ (by omega) (by omega) hne]; exact q4, by rw [h2 6 _ (by omega) (by omega) hne]; exact q5⟩
    · rename_i hi
      cases hj : i - (a.1 c').length with
      | zero =>
        rw [hj] at hl
        simp at hl
        rw [← hl, show i = (a.1 c').length by omega]
        exact h3
      | succ n => rw [hj] at hl; simp at hl
  · rw [if_neg hcc, if_neg hcc]
    refine ⟨(h.2.1 c' hc').1, fun i l hl => ?_⟩
    obtain ⟨q1, q2, q3, q4, q5⟩ := (h.2.1 c' hc').2 i l hl
    have hi := (List.getElem?_eq_some_iff.mp hl).1
    have hne : 4 * c' + i ≠ 4 * c + (a.1 c).length := by omega
    exact ⟨by rw [h2 2 _ (by omega) (by omega) hne]; exact q1, by rw [h2 3 _ (by omega) (by omega) hne]; exact q2, by rw [h2 4 _ (by omega) (by omega) hne]; exact q3, by rw [h2 5 _ (by omega) (by omega) hne]; exact q4, by rw [h2 6 _ (by omega) (by omega) hne]; exact q5⟩
set_option maxRecDepth 20000 in
theorem mt_X3_cover {kd : Nat → Nat} {K : zK} {X : zX} (hX : ∀ (n pc : Nat) (ls : zLS) (st : List zV) (M : zM), zrun (tb_X3_cover kd K) [] n X pc ls st M → X pc ls st M) (t : Nat) (c : Int32) (k : Int32) (g : Int32) (e : Int32) (M : zM) (h : (kd t = 3) ∧ ∃ a : Sk, (RpS (M.1 t) a) ∧ (0 ≤ c.toInt ∧ c.toInt < 6) ∧ (sk_canR a c.toInt = false) ∧ (0 ≤ k.toInt ∧ k.toInt ≤ 5) ∧ (0 ≤ g.toInt ∧ g.toInt ≤ 4) ∧ (e.toInt = 0 ∨ e.toInt = 1) ∧ ∀ v : Int32, (v.toInt = if sk_len a c.toInt < 4 then sk_len a c.toInt else -1) → ∀ S' : zB, (RpS S' (sk_wr a c.toInt k.toInt g.toInt e.toInt)) → ∀ M' : zM, (M' = zbs M t S') → K (some (zI v)) M') : X 0 [some (zR t 0), some (zI (c)), some (zI (k)), some (zI (g)), some (zI (e)), none, none] [] M := by
  obtain ⟨hk, a, ha, hc, hr, hk5, hg, he, hK⟩ := h
  have hl := ha.h hc.1 hc.2
  have hb := sk_len_b ha.1 hc.1 hc.2
  refine vc_X3_cover_0 hX hk (fun v1 hv1 => ⟨fun q => absurd hc (by rw [hv1, zp_0] at q; exact q), fun _ => ⟨zin_of (by rw [hk]; rfl) hc.1 hc.2, fun q => ?_, fun _ => ⟨fun q => ?_, fun q => ?_⟩⟩⟩)
  · simp only [Int32.lt_iff_toInt_lt, Int32.le_iff_toInt_le, ← Int32.toInt_inj, Int32.toInt_add, Int32.toInt_sub, Int32.toInt_mul, Int32.toInt_neg, Int.bmod, Int32.reduceToInt] at q; omega
  · simp only [Int32.lt_iff_toInt_lt, Int32.le_iff_toInt_le, ← Int32.toInt_inj, Int32.toInt_add, Int32.toInt_sub, Int32.toInt_mul, Int32.toInt_neg, Int.bmod, Int32.reduceToInt] at q
    generalize hh : M.1 t 1 c.toNatClampNeg = hv at hl q ⊢
    obtain ⟨cn, hc1, hc2⟩ : ∃ cn : Nat, c.toNatClampNeg = cn ∧ c.toInt = cn := ⟨c.toInt.toNat, rfl, by omega⟩
    have es : ((c * (4 : Int32)) + hv).toInt = 4 * c.toInt + hv.toInt := by simp only [Int32.lt_iff_toInt_lt, Int32.le_iff_toInt_le, ← Int32.toInt_inj, Int32.toInt_add, Int32.toInt_sub, Int32.toInt_mul, Int32.toInt_neg, Int.bmod, Int32.reduceToInt]; omega
    generalize hs : (c * (4 : Int32)) + hv = s at es ⊢
    have hlc : sk_len a c.toInt = ((a.1 cn).length : Int) := by rw [hc2]; rfl
    obtain ⟨sn, hs1, hs2⟩ : ∃ sn : Nat, s.toNatClampNeg = sn ∧ sn = 4 * cn + (a.1 cn).length := ⟨s.toInt.toNat, rfl, by omega⟩
    refine ⟨zin_of (by rw [hk]; rfl) hc.1 hc.2, fun M8 e8 => ⟨zin_of (by rw [hk]; rfl) (by omega) (by omega), fun M9 e9 => ⟨zin_of (by rw [hk]; rfl) (by omega) (by omega), fun M10 e10 => ⟨zin_of (by rw [hk]; rfl) (by omega) (by omega), fun M11 e11 => ⟨zin_of (by rw [hk]; rfl) (by omega) (by omega), fun M12 e12 => ⟨zin_of (by rw [hk]; rfl) (by omega) (by omega), fun M13 e13 => ?_⟩⟩⟩⟩⟩⟩
    rw [hs1] at e9 e10 e11 e12 e13
    rw [hc1] at e8
    refine hK _ (by rw [if_pos (by omega)]; exact hl) (M13.1 t) ?_ M13 ?_
    · rw [e13, e12, e11, e10, e9, e8]
      have hok := sk_wr_ok ha.1 hc.1 hc.2 hr hk5 hg he
      rw [hc2] at hok ⊢
      simp only [zmw_bs, zbs_at, zbs_bs]
      refine ha.wr (c := cn) (by omega) (by omega) hok (fun c' => ?_) (fun o q' h2 h6 hq => ?_) ⟨?_, ?_, ?_, ?_, ?_⟩ ?_
      · simp only [zrw]
        simp [upd]
        split
        · simp only [Int32.lt_iff_toInt_lt, Int32.le_iff_toInt_le, ← Int32.toInt_inj, Int32.toInt_add, Int32.toInt_sub, Int32.toInt_mul, Int32.toInt_neg, Int.bmod, Int32.reduceToInt]; omega
        · rfl
      · rw [← hs2] at hq
        simp only [zrw]
        rcases (show o = 2 ∨ o = 3 ∨ o = 4 ∨ o = 5 ∨ o = 6 by omega) with rfl | rfl | rfl | rfl | rfl <;> simp [upd, hq]
      all_goals simp [zrw, upd, hs2]
      · exact ha.2.2
    · rw [e13, e12, e11, e10, e9, e8]
      simp only [zmw_bs, zbs_at, zbs_bs]
  · simp only [Int32.lt_iff_toInt_lt, Int32.le_iff_toInt_le, ← Int32.toInt_inj, Int32.toInt_add, Int32.toInt_sub, Int32.toInt_mul, Int32.toInt_neg, Int.bmod, Int32.reduceToInt] at q
    refine hK _ (by rw [if_neg (by omega)]; rfl) (M.1 t) ?_ M zbs_self.symm
    unfold sk_wr
    rw [if_neg (by omega)]
    exact ha
theorem ms_X3_cover : zMS 2 yX3_cover cX3_cover 7 (some .int) sp_X3_cover := by
  intro d hd
  obtain ⟨d', rfl⟩ : ∃ d', d = d' + 2 := ⟨d - 2, by omega⟩
  refine zmethod (tab := tb_X3_cover) (cut := []) (by decide) (tk_X3_cover d' ms_X7_isCell) ?_
  intro kd as M K h
  unfold sp_X3_cover at h
  split at h
  · rename_i t c k g e
    exact ⟨Nat.le_of_ble_eq_true rfl, fun X hX => mt_X3_cover hX t c k g e M h⟩
  · exact h.elim

