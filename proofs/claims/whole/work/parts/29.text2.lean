set_option maxRecDepth 20000 in
theorem mt_X5_cutWord {kd : Nat → Nat} {K : zK} {X : zX} (hX : ∀ (n pc : Nat) (ls : zLS) (st : List zV) (M : zM), zrun (tb_X5_cutWord kd K) [(0, [])] n X pc ls st M → X pc ls st M) (t : Nat) (M : zM) (h : (kd t = 7) ∧ ∃ b : List Int, (RpB (M.1 t) b) ∧ ∃ p : Nat, ((M.1 t 0 2).toInt = (p : Int)) ∧ (p ≤ b.length) ∧ ∀ S' : zB, (RpB S' b ∧ (S' 0 2).toInt = (skW isLt b p : Int) ∧ S' 0 3 = M.1 t 0 3 ∧ (S' 0 4).toInt = 4) → ∀ M' : zM, (M' = zbs M t S') → K none M') : X 0 [some (zR t 0)] [] M := by
  obtain ⟨hk, b, hB, p, hp, hle, hK⟩ := h
  refine up (N := b.length) (Q := fun j => ∀ M : zM, RpB (M.1 t) b → (M.1 t 0 2).toInt = (j : Int) → (∀ S' : zB, (RpB S' b ∧ (S' 0 2).toInt = (skW isLt b j : Int) ∧ S' 0 3 = M.1 t 0 3 ∧ (S' 0 4).toInt = 4) → ∀ M' : zM, (M' = zbs M t S') → K none M') → X 0 [some (zR t 0)] [] M) (fun M hB hp hK => ?_) (fun j hj ih M hB hp hK => ?_) p hle M hB hp hK
  · have hs := hB.2.1
    refine vc_X5_cutWord_0 hX hk ⟨fun _ M1 e1 => ?_, fun q => by simp only [Int32.lt_iff_toInt_lt, Int32.le_iff_toInt_le, ← Int32.toInt_inj, Int32.toInt_add, Int32.toInt_sub, Int32.toInt_mul, Int32.toInt_neg, Int.bmod, Int32.reduceToInt] at q; omega⟩
    rw [zmw_bs] at e1
    exact hK _ ⟨hB.put (by decide), by rw [zf_ne (by decide), hp, skW_end (Nat.le_refl _)], by rw [zf_ne (by decide)], by rw [zf_at]; rfl⟩ M1 e1
  · have hs := hB.2.1
    have h150 := hB.1
    refine vc_X5_cutWord_0 hX hk ⟨fun q => by simp only [Int32.lt_iff_toInt_lt, Int32.le_iff_toInt_le, ← Int32.toInt_inj, Int32.toInt_add, Int32.toInt_sub, Int32.toInt_mul, Int32.toInt_neg, Int.bmod, Int32.reduceToInt] at q; omega, fun _ => ⟨b, hB, j, hp, by omega, fun v2 h2 v3 h3 => ⟨fun h4 M1 e1 => ?_, fun h4 M1 e1 => ?_⟩⟩⟩
    · rw [h3, zp_0, h2] at h4
      rw [zmw_bs] at e1
      exact hK _ ⟨hB.put (by decide), by rw [zf_ne (by decide), hp, skW_stop (by simpa using h4)], by rw [zf_ne (by decide)], by rw [zf_at]; rfl⟩ M1 e1
    · rw [h3, zp_n, h2] at h4
      rw [zmw_bs] at e1
      refine ih M1 (by rw [e1, zbs_at]; exact hB.put (by decide)) (by rw [e1, zbs_at, zf_at]; exact z_inc hp (by omega)) (fun S' hS M' e' => hK S' ⟨hS.1, ?_, ?_, hS.2.2.2⟩ M' ?_)
      · rw [hS.2.1, skW_step hj h4]
      · rw [hS.2.2.1, e1, zbs_at, zf_ne (by decide)]
      · rw [e', e1, zbs_bs]
theorem ms_X5_cutWord : zMS 2 yX5_cutWord cX5_cutWord 1 none sp_X5_cutWord := by
  intro d hd
  obtain ⟨d', rfl⟩ : ∃ d', d = d' + 2 := ⟨d - 2, by omega⟩
  refine zmethod (tab := tb_X5_cutWord) (cut := [(0, [])]) (by decide) (tk_X5_cutWord d' ms_X5_peek ms_X5_isLetter) ?_
  intro kd as M K h
  unfold sp_X5_cutWord at h
  split at h
  · rename_i t
    exact ⟨Nat.le_of_ble_eq_true rfl, fun X hX => mt_X5_cutWord hX t M h⟩
  · exact h.elim

theorem isFg_iff {z : Int} : isFg z = true ↔ (48 ≤ z ∧ z ≤ 57) := by unfold isFg; rw [decide_eq_true_eq]
theorem isLt_iff {z : Int} : isLt z = true ↔ (97 ≤ z ∧ z ≤ 122) := by unfold isLt; rw [decide_eq_true_eq]
def dg (b : List Int) (p q : Nat) : Int := if q - p = 0 then 0 else dig2 b p q
set_option maxRecDepth 20000 in
theorem mt_X5_cutNumber {kd : Nat → Nat} {K : zK} {X : zX} (hX : ∀ (n pc : Nat) (ls : zLS) (st : List zV) (M : zM), zrun (tb_X5_cutNumber kd K) [(5, [])] n X pc ls st M → X pc ls st M) (t : Nat) (M : zM) (h : (kd t = 7) ∧ ∃ b : List Int, (RpB (M.1 t) b) ∧ ∃ p : Nat, ((M.1 t 0 2).toInt = (p : Int)) ∧ ((M.1 t 0 3).toInt = (p : Int)) ∧ (p ≤ b.length) ∧ (isFg (atB b p) = true) ∧ ∀ S' : zB, (RpB S' b ∧ (S' 0 2).toInt = (skW isFg b p : Int) ∧ S' 0 3 = M.1 t 0 3 ∧ (S' 0 4).toInt = (if skW isFg b p - p ≤ 2 then 3 else 1) ∧ (S' 0 5).toInt = dig2 b p (skW isFg b p)) → ∀ M' : zM, (M' = zbs M t S') → K none M') : X 0 [some (zR t 0)] [] M := by
  obtain ⟨hk, b, hB, p, hp, hst, hle, hfg, hK⟩ := h
  have hlt : p < b.length := by
    by_cases hc : p < b.length
    · exact hc
    · rw [atB_out (by omega)] at hfg; exact absurd hfg (by decide)
  have hfg1 := isFg_iff.mp hfg
  refine vc_X5_cutNumber_0 hX hk (fun M0 e0 => ?_)
  rw [zmw_bs] at e0
  refine up (N := b.length) (Q := fun j => ∀ M : zM, p ≤ j → RpB (M.1 t) b → (M.1 t 0 2).toInt = (j : Int) → (M.1 t 0 3).toInt = (p : Int) → skW isFg b j = skW isFg b p → (j - p = 1 ∨ j = p ∨ 2 ≤ j - p) → (M.1 t 0 5).toInt = dg b p j → (∀ S' : zB, (RpB S' b ∧ (S' 0 2).toInt = (skW isFg b p : Int) ∧ S' 0 3 = M.1 t 0 3 ∧ (S' 0 4).toInt = (if skW isFg b p - p ≤ 2 then 3 else 1) ∧ (S' 0 5).toInt = dig2 b p (skW isFg b p)) → ∀ M' : zM, (M' = zbs M t S') → K none M') → X 5 [some (zR t 0)] [] M) (fun M hj0 hB hp hst hsk _ hnum hK => ?_) (fun j hj ih M hj0 hB hp hst hsk _ hnum hK => ?_) p hle M0 (Nat.le_refl _) (by rw [e0, zbs_at]; exact hB.put (by decide)) (by rw [e0, zbs_at, zf_ne (by decide)]; exact hp) (by rw [e0, zbs_at, zf_ne (by decide)]; exact hst) rfl (Or.inr (Or.inl rfl)) (by rw [e0, zbs_at, zf_at]; unfold dg; simp) (fun S' hS M' e' => hK S' ⟨hS.1, hS.2.1, by rw [hS.2.2.1, e0, zbs_at, zf_ne (by decide)], hS.2.2.2⟩ M' (by rw [e', e0, zbs_bs]))
  · have hs := hB.2.1
    have h150 := hB.1
    rw [skW_end (Nat.le_refl _)] at hsk
    have hne : ¬ b.length - p = 0 := by omega
    unfold dg at hnum
    rw [if_neg hne] at hnum
    refine vc_X5_cutNumber_5 hX hk ⟨fun _ => ⟨fun q M1 e1 => ?_, fun q M1 e1 => ?_⟩, fun q => by simp only [Int32.lt_iff_toInt_lt, Int32.le_iff_toInt_le, ← Int32.toInt_inj, Int32.toInt_add, Int32.toInt_sub, Int32.toInt_mul, Int32.toInt_neg, Int.bmod, Int32.reduceToInt] at q; omega⟩
    · rw [zmw_bs] at e1
      simp only [Int32.lt_iff_toInt_lt, Int32.le_iff_toInt_le, ← Int32.toInt_inj, Int32.toInt_add, Int32.toInt_sub, Int32.toInt_mul, Int32.toInt_neg, Int.bmod, Int32.reduceToInt] at q
      exact hK _ ⟨hB.put (by decide), by rw [zf_ne (by decide), hp, hsk], by rw [zf_ne (by decide)], by rw [zf_at, if_neg (by omega)]; rfl, by rw [zf_ne (by decide), hnum, hsk]⟩ M1 e1
    · rw [zmw_bs] at e1
      simp only [Int32.lt_iff_toInt_lt, Int32.le_iff_toInt_le, ← Int32.toInt_inj, Int32.toInt_add, Int32.toInt_sub, Int32.toInt_mul, Int32.toInt_neg, Int.bmod, Int32.reduceToInt] at q
      exact hK _ ⟨hB.put (by decide), by rw [zf_ne (by decide), hp, hsk], by rw [zf_ne (by decide)], by rw [zf_at, if_pos (by omega)]; rfl, by rw [zf_ne (by decide), hnum, hsk]⟩ M1 e1
  · have hs := hB.2.1
    have h150 := hB.1
    refine vc_X5_cutNumber_5 hX hk ⟨fun q => by simp only [Int32.lt_iff_toInt_lt, Int32.le_iff_toInt_le, ← Int32.toInt_inj, Int32.toInt_add, Int32.toInt_sub, Int32.toInt_mul, Int32.toInt_neg, Int.bmod, Int32.reduceToInt] at q; omega, fun _ => ⟨b, hB, j, hp, by omega, fun v2 h2 v3 h3 => ⟨fun h4 => ?_, fun h4 => ?_⟩⟩⟩
    · rw [h3, zp_0, h2] at h4
      have hstop : skW isFg b j = j := skW_stop (by simpa using h4)
      rw [hstop] at hsk
      have hne : ¬ j - p = 0 := fun e => by
        rw [show j = p by omega] at h4
        exact h4 hfg
      unfold dg at hnum
      rw [if_neg hne] at hnum
      refine ⟨fun q M1 e1 => ?_, fun q M1 e1 => ?_⟩
      · rw [zmw_bs] at e1
        simp only [Int32.lt_iff_toInt_lt, Int32.le_iff_toInt_le, ← Int32.toInt_inj, Int32.toInt_add, Int32.toInt_sub, Int32.toInt_mul, Int32.toInt_neg, Int.bmod, Int32.reduceToInt] at q
        exact hK _ ⟨hB.put (by decide), by rw [zf_ne (by decide), hp, hsk], by rw [zf_ne (by decide)], by rw [zf_at, if_neg (by omega)]; rfl, by rw [zf_ne (by decide), hnum, hsk]⟩ M1 e1
      · rw [zmw_bs] at e1
        simp only [Int32.lt_iff_toInt_lt, Int32.le_iff_toInt_le, ← Int32.toInt_inj, Int32.toInt_add, Int32.toInt_sub, Int32.toInt_mul, Int32.toInt_neg, Int.bmod, Int32.reduceToInt] at q
        exact hK _ ⟨hB.put (by decide), by rw [zf_ne (by decide), hp, hsk], by rw [zf_ne (by decide)], by rw [zf_at, if_pos (by omega)]; rfl, by rw [zf_ne (by decide), hnum, hsk]⟩ M1 e1
    · rw [h3, zp_n, h2] at h4
      have hstep := skW_step hj h4
      have h4' := isFg_iff.mp h4
      refine ⟨fun q M1 e1 => ?_, fun q => ⟨b, hB, j, hp, by omega, fun v8 h8 M1 e1 M2 e2 => ?_⟩⟩
      · rw [zmw_bs] at e1
        simp only [Int32.lt_iff_toInt_lt, Int32.le_iff_toInt_le, ← Int32.toInt_inj, Int32.toInt_add, Int32.toInt_sub, Int32.toInt_mul, Int32.toInt_neg, Int.bmod, Int32.reduceToInt] at q
        refine ih M1 (by omega) (by rw [e1, zbs_at]; exact hB.put (by decide)) (by rw [e1, zbs_at, zf_at]; exact z_inc hp (by omega)) (by rw [e1, zbs_at, zf_ne (by decide)]; exact hst) (by rw [← hstep, hsk]) (by omega) ?_ (fun S' hS M' e' => hK S' ⟨hS.1, hS.2.1, by rw [hS.2.2.1, e1, zbs_at, zf_ne (by decide)], hS.2.2.2⟩ M' (by rw [e', e1, zbs_bs]))
        rw [e1, zbs_at, zf_ne (by decide), hnum]
        unfold dg dig2
        rw [if_neg (by omega), if_neg (by omega), if_neg (by omega), if_neg (by omega)]
      · rw [zmw_bs] at e1 e2
        subst e1
        simp only [zbs_at, zbs_bs] at e2
        rw [zf_ne (by decide)] at e2
        simp only [Int32.lt_iff_toInt_lt, Int32.le_iff_toInt_le, ← Int32.toInt_inj, Int32.toInt_add, Int32.toInt_sub, Int32.toInt_mul, Int32.toInt_neg, Int.bmod, Int32.reduceToInt] at q
        refine ih M2 (by omega) (by rw [e2, zbs_at]; exact (hB.put (by decide)).put (by decide)) (by rw [e2, zbs_at, zf_at]; exact z_inc hp (by omega)) (by rw [e2, zbs_at, zf_ne (by decide), zf_ne (by decide)]; exact hst) (by rw [← hstep, hsk]) (by omega) ?_ (fun S' hS M' e' => hK S' ⟨hS.1, hS.2.1, by rw [hS.2.2.1, e2, zbs_at, zf_ne (by decide), zf_ne (by decide)], hS.2.2.2⟩ M' (by rw [e', e2, zbs_bs]))
        rw [e2, zbs_at, zf_ne (by decide), zf_at]
        rcases (show j = p ∨ j = p + 1 by omega) with rfl | rfl
        · unfold dg at hnum
          rw [if_pos (by omega)] at hnum
          unfold dg dig2
          rw [if_neg (by omega), if_pos (by omega)]
          simp only [Int32.lt_iff_toInt_lt, Int32.le_iff_toInt_le, ← Int32.toInt_inj, Int32.toInt_add, Int32.toInt_sub, Int32.toInt_mul, Int32.toInt_neg, Int.bmod, Int32.reduceToInt]
          omega
        · unfold dg dig2 at hnum
          rw [if_neg (by omega), if_pos (by omega)] at hnum
          unfold dg dig2
          rw [if_neg (by omega), if_neg (by omega)]
          simp only [Int32.lt_iff_toInt_lt, Int32.le_iff_toInt_le, ← Int32.toInt_inj, Int32.toInt_add, Int32.toInt_sub, Int32.toInt_mul, Int32.toInt_neg, Int.bmod, Int32.reduceToInt]
          omega
theorem ms_X5_cutNumber : zMS 2 yX5_cutNumber cX5_cutNumber 1 none sp_X5_cutNumber := by
  intro d hd
  obtain ⟨d', rfl⟩ : ∃ d', d = d' + 2 := ⟨d - 2, by omega⟩
  refine zmethod (tab := tb_X5_cutNumber) (cut := [(5, [])]) (by decide) (tk_X5_cutNumber d' ms_X5_peek ms_X5_isFigure) ?_
  intro kd as M K h
  unfold sp_X5_cutNumber at h
  split at h
  · rename_i t
    exact ⟨Nat.le_of_ble_eq_true rfl, fun X hX => mt_X5_cutNumber hX t M h⟩
  · exact h.elim

set_option maxRecDepth 20000 in
theorem mt_X5_cutNext {kd : Nat → Nat} {K : zK} {X : zX} (hX : ∀ (n pc : Nat) (ls : zLS) (st : List zV) (M : zM), zrun (tb_X5_cutNext kd K) [(0, [1]), (33, [1])] n X pc ls st M → X pc ls st M) (t : Nat) (M : zM) (h : (kd t = 7) ∧ ∃ b : List Int, (RpB (M.1 t) b) ∧ ∃ p : Nat, ((M.1 t 0 2).toInt = (p : Int)) ∧ (p ≤ b.length) ∧ ∀ S' : zB, (RpK S' b (tok b p)) → ∀ M' : zM, (M' = zbs M t S') → K none M') : X 0 [some (zR t 0), none] [] M := by
  obtain ⟨hk, b, hB, p, hp, hle, hK⟩ := h
  have fin : ∀ (s : Nat) (M : zM), s ≤ b.length → RpB (M.1 t) b → (M.1 t 0 2).toInt = (s : Int) → (∀ S' : zB, (RpK S' b (tokS b s)) → ∀ M' : zM, (M' = zbs M t S') → K none M') → X 33 [some (zR t 0), none] [] M := by
    intro s M hle hB hp hK
    have hs := hB.2.1
    have h150 := hB.1
    refine vc_X5_cutNext_33 hX hk (fun M1 e1 => ?_)
    rw [zmw_bs] at e1
    have g1 : M1.1 t = zrw (M.1 t) 0 (upd (M.1 t 0) 3 (M.1 t 0 2)) := by rw [e1, zbs_at]
    have hB1 : RpB (M1.1 t) b := by rw [g1]; exact hB.put (by decide)
    have hp1 : (M1.1 t 0 2).toInt = (s : Int) := by rw [g1, zf_ne (by decide)]; exact hp
    have hs1 : (M1.1 t 0 3).toInt = (s : Int) := by rw [g1, zf_at]; exact hp
    have hK1 : ∀ S' : zB, (RpK S' b (tokS b s)) → ∀ M' : zM, (M' = zbs M1 t S') → K none M' := fun S' hS M' e' => hK S' hS M' (by rw [e', e1, zbs_bs])
    refine ⟨b, hB1, s, hp1, hle, fun v2 h2 v3 h3 => ⟨fun h4 v4 h5 => ⟨fun h6 => ⟨fun h7 => ⟨fun h8 M5 e5 M6 e6 => ?_, fun h8 M5 e5 M6 e6 => ?_⟩, fun h7 M9 e9 => ?_⟩, fun h6 => ?_⟩, fun h4 => ?_⟩⟩
    · rw [h3, zp_0, h2] at h4
      rw [h5, zp_0, h2] at h6
      rw [← Int32.toInt_inj, h2] at h7 h8
      have h7' : ¬ atB b s = -1 := h7
      have h8' : ¬ atB b s = 59 := h8
      have hlt : s < b.length := by rw [hB.in] at h7'; omega
      rw [zmw_bs] at e5 e6
      subst e5
      simp only [zbs_at, zbs_bs] at e6
      rw [zf_ne (by decide)] at e6
      refine hK1 _ ?_ M6 e6
      unfold tokS
      rw [if_neg h4, if_neg h6, if_neg h7', if_neg h8']
      refine ⟨(hB1.put (by decide)).put (by decide), ?_, ?_, ?_, fun e => absurd (show (1 : Int) = 3 from e) (by decide), by simp only; omega, by simp only; omega⟩
      · rw [zf_at]; exact z_inc hp1 (by omega)
      · rw [zf_ne (by decide), zf_ne (by decide)]; exact hs1
      · rw [zf_ne (by decide), zf_at]; rfl
    · rw [h3, zp_0, h2] at h4
      rw [h5, zp_0, h2] at h6
      rw [← Int32.toInt_inj, h2] at h7 h8
      have h7' : ¬ atB b s = -1 := h7
      have h8' : atB b s = 59 := h8
      have hlt : s < b.length := by rw [hB.in] at h7'; omega
      rw [zmw_bs] at e5 e6
      subst e5
      simp only [zbs_at, zbs_bs] at e6
      rw [zf_ne (by decide)] at e6
      refine hK1 _ ?_ M6 e6
      unfold tokS
      rw [if_neg h4, if_neg h6, if_neg h7', if_pos h8']
      refine ⟨(hB1.put (by decide)).put (by decide), ?_, ?_, ?_, fun e => absurd (show (2 : Int) = 3 from e) (by decide), by simp only; omega, by simp only; omega⟩
      · rw [zf_at]; exact z_inc hp1 (by omega)
      · rw [zf_ne (by decide), zf_ne (by decide)]; exact hs1
      · rw [zf_ne (by decide), zf_at]; rfl
    · rw [h3, zp_0, h2] at h4
      rw [h5, zp_0, h2] at h6
      rw [← Int32.toInt_inj, h2] at h7
      have h7' : atB b s = -1 := h7
      rw [zmw_bs] at e9
      refine hK1 _ ?_ M9 e9
      unfold tokS
      rw [if_neg h4, if_neg h6, if_pos h7']
      refine ⟨hB1.put (by decide), ?_, ?_, ?_, fun e => absurd (show (0 : Int) = 3 from e) (by decide), by simp only; omega, by simp only; omega⟩
      · rw [zf_ne (by decide)]; exact hp1
      · rw [zf_ne (by decide)]; exact hs1
      · rw [zf_at]; rfl
    · rw [h3, zp_0, h2] at h4
      rw [h5, zp_n, h2] at h6
      refine ⟨b, hB1, s, hp1, hs1, hle, h6, fun S' hS M' e' => hK1 S' ?_ M' e'⟩
      unfold tokS
      rw [if_neg h4, if_pos h6]
      exact ⟨hS.1, hS.2.1, by rw [hS.2.2.1]; exact hs1, hS.2.2.2.1, fun _ => hS.2.2.2.2, skW_ge, skW_le hle⟩
    · rw [h3, zp_n, h2] at h4
      refine ⟨b, hB1, s, hp1, hle, fun S' hS M' e' => hK1 S' ?_ M' e'⟩
      unfold tokS
      rw [if_pos h4]
      exact ⟨hS.1, hS.2.1, by rw [hS.2.2.1]; exact hs1, hS.2.2.2, fun e => absurd (show (4 : Int) = 3 from e) (by decide), skW_ge, skW_le hle⟩
  refine up (N := b.length) (Q := fun j => ∀ M : zM, RpB (M.1 t) b → (M.1 t 0 2).toInt = (j : Int) → (∀ S' : zB, (RpK S' b (tok b j)) → ∀ M' : zM, (M' = zbs M t S') → K none M') → X 0 [some (zR t 0), none] [] M) (fun M hB hp hK => ?_) (fun j hj ih M hB hp hK => ?_) p hle M hB hp hK
  · have hs := hB.2.1
    refine vc_X5_cutNext_0 hX hk ⟨fun _ => fin _ M (Nat.le_refl _) hB hp ?_, fun q => by simp only [Int32.lt_iff_toInt_lt, Int32.le_iff_toInt_le, ← Int32.toInt_inj, Int32.toInt_add, Int32.toInt_sub, Int32.toInt_mul, Int32.toInt_neg, Int.bmod, Int32.reduceToInt] at q; omega⟩
    unfold tok at hK
    rw [skW_end (Nat.le_refl _)] at hK
    exact hK
  · have hs := hB.2.1
    have h150 := hB.1
    refine vc_X5_cutNext_0 hX hk ⟨fun q => by simp only [Int32.lt_iff_toInt_lt, Int32.le_iff_toInt_le, ← Int32.toInt_inj, Int32.toInt_add, Int32.toInt_sub, Int32.toInt_mul, Int32.toInt_neg, Int.bmod, Int32.reduceToInt] at q; omega, fun _ => ⟨b, hB, j, hp, by omega, fun v1 h1 => ⟨fun h2 => fin j M (by omega) hB hp ?_, fun h2 M1 e1 => ?_⟩⟩⟩
    · rw [← Int32.toInt_inj, h1] at h2
      have h2' : ¬ atB b j = 32 := h2
      unfold tok at hK
      rw [skW_stop (by unfold isBk; simpa using h2')] at hK
      exact hK
    · rw [← Int32.toInt_inj, h1] at h2
      have h2' : atB b j = 32 := h2
      rw [zmw_bs] at e1
      refine ih M1 (by rw [e1, zbs_at]; exact hB.put (by decide)) (by rw [e1, zbs_at, zf_at]; exact z_inc hp (by omega)) (fun S' hS M' e' => hK S' ?_ M' (by rw [e', e1, zbs_bs]))
      unfold tok
      rw [skW_step hj (by unfold isBk; simpa using h2')]
      exact hS
theorem ms_X5_cutNext : zMS 3 yX5_cutNext cX5_cutNext 2 none sp_X5_cutNext := by
  intro d hd
  obtain ⟨d', rfl⟩ : ∃ d', d = d' + 3 := ⟨d - 3, by omega⟩
  refine zmethod (tab := tb_X5_cutNext) (cut := [(0, [1]), (33, [1])]) (by decide) (tk_X5_cutNext d' ms_X5_peek ms_X5_isLetter ms_X5_cutWord ms_X5_isFigure ms_X5_cutNumber) ?_
  intro kd as M K h
  unfold sp_X5_cutNext at h
  split at h
  · rename_i t
    exact ⟨Nat.le_of_ble_eq_true rfl, fun X hX => mt_X5_cutNext hX t M h⟩
  · exact h.elim

set_option maxRecDepth 20000 in
theorem mt_X5_cutFirst {kd : Nat → Nat} {K : zK} {X : zX} (hX : ∀ (n pc : Nat) (ls : zLS) (st : List zV) (M : zM), zrun (tb_X5_cutFirst kd K) [] n X pc ls st M → X pc ls st M) (t : Nat) (M : zM) (h : (kd t = 7) ∧ ∃ b : List Int, (RpB (M.1 t) b) ∧ ∀ S' : zB, (RpK S' b (tok b 0)) → ∀ M' : zM, (M' = zbs M t S') → K none M') : X 0 [some (zR t 0)] [] M := by
  obtain ⟨hk, b, hB, hK⟩ := h
  refine vc_X5_cutFirst_0 hX hk (fun M1 e1 => ?_)
  rw [zmw_bs] at e1
  refine ⟨b, by rw [e1, zbs_at]; exact hB.put (by decide), 0, by rw [e1, zbs_at, zf_at]; rfl, by omega, fun S' hS M' e' => hK S' hS M' (by rw [e', e1, zbs_bs])⟩
theorem ms_X5_cutFirst : zMS 4 yX5_cutFirst cX5_cutFirst 1 none sp_X5_cutFirst := by
  intro d hd
  obtain ⟨d', rfl⟩ : ∃ d', d = d' + 4 := ⟨d - 4, by omega⟩
  refine zmethod (tab := tb_X5_cutFirst) (cut := []) (by decide) (tk_X5_cutFirst d' ms_X5_cutNext) ?_
  intro kd as M K h
  unfold sp_X5_cutFirst at h
  split at h
  · rename_i t
    exact ⟨Nat.le_of_ble_eq_true rfl, fun X hX => mt_X5_cutFirst hX t M h⟩
  · exact h.elim

theorem wd_len {w : Nat} (h : 20 ≤ w ∧ w < 24) : (wdI w).length = zslen.getD (w - 20) 0 := by
  unfold wdI
  rw [List.length_map, (zslb h).1]
theorem wd_get {w k : Nat} (h : 20 ≤ w ∧ w < 24) (hk : k < zslen.getD (w - 20) 0) : (wdI w)[k]? = some ((zsbyt.getD (w - 20) []).getD k 0).toInt := by
  have h1 : k < (zsbyt.getD (w - 20) []).length := by rw [(zslb h).1]; exact hk
  unfold wdI
  generalize zsbyt.getD (w - 20) [] = L at h1
  rw [List.getElem?_map, List.getElem?_eq_getElem h1, List.getD_eq_getElem?_getD, List.getElem?_eq_getElem h1]
  rfl
set_option maxRecDepth 20000 in
theorem mt_X5_spells {kd : Nat → Nat} {K : zK} {X : zX} (hX : ∀ (n pc : Nat) (ls : zLS) (st : List zV) (M : zM), zrun (tb_X5_spells kd K) [(45, [])] n X pc ls st M → X pc ls st M) (t : Nat) (w : Nat) (M : zM) (h : (kd t = 7) ∧ ∃ b : List Int, ∃ T : Tk, (RpK (M.1 t) b T) ∧ (20 ≤ w ∧ w < 24) ∧ ∀ v : Int32, (v = zp (isWd b T w = true)) → K (some (zI v)) M) : X 0 [some (zR t 0), some (zR w 0), none] [] M := by
  obtain ⟨hk, b, T, hT, hw, hK⟩ := h
  obtain ⟨hB, hn, hs, ht, _, hle, hlb⟩ := hT
  have h150 := hB.1
  have h5 := (zslb hw).2
  have hnI := nI_toInt (n := zslen.getD (w - 20) 0) (by omega)
  have no : ¬ isWd b T w = true → K (some (zI 0)) M := fun q => hK _ (zp_f q).symm
  have hlen : ((b.drop T.1).take (T.2.2.2 - T.1)).length = T.2.2.2 - T.1 := by rw [List.length_take, List.length_drop]; omega
  refine vc_X5_spells_0 hX hk ⟨fun q => no ?_, fun q4 => ⟨hw, fun v1 h1 => ⟨fun q => no ?_, fun q => ⟨fun q2 => ?_, fun _ => ⟨fun _ => ?_, fun q2 => ?_⟩⟩⟩⟩⟩
  · rw [← Int32.toInt_inj, ht] at q
    have q' : ¬ T.2.1 = 4 := q
    simp [isWd, q']
  · intro e
    unfold isWd at e
    rw [Bool.and_eq_true, decide_eq_true_eq, decide_eq_true_eq] at e
    have e2 := congrArg List.length e.2
    rw [hlen, wd_len hw] at e2
    apply q
    rw [h1]
    rw [← Int32.toInt_inj, hnI]
    simp only [Int32.lt_iff_toInt_lt, Int32.le_iff_toInt_le, ← Int32.toInt_inj, Int32.toInt_add, Int32.toInt_sub, Int32.toInt_mul, Int32.toInt_neg, Int.bmod, Int32.reduceToInt]
    omega
  · simp only [Int32.lt_iff_toInt_lt, Int32.le_iff_toInt_le, ← Int32.toInt_inj, Int32.toInt_add, Int32.toInt_sub, Int32.toInt_mul, Int32.toInt_neg, Int.bmod, Int32.reduceToInt] at q2; omega
  · rw [← Int32.toInt_inj, ht] at q4
    have q4' : T.2.1 = 4 := q4
    rw [h1, ← Int32.toInt_inj, hnI] at q
    simp only [Int32.lt_iff_toInt_lt, Int32.le_iff_toInt_le, ← Int32.toInt_inj, Int32.toInt_add, Int32.toInt_sub, Int32.toInt_mul, Int32.toInt_neg, Int.bmod, Int32.reduceToInt] at q
    have hTl : T.2.2.2 - T.1 = zslen.getD (w - 20) 0 := by omega
    refine up (N := zslen.getD (w - 20) 0) (Q := fun j => ∀ k : Int32, k.toInt = j → (∀ i, i < j → b[T.1 + i]? = (wdI w)[i]?) → X 45 [some (zR t 0), some (zR w 0), some (zI k)] [] M) (fun k hk1 hal => ?_) (fun j hj ih k hk1 hal => ?_) 0 (by omega) 0 rfl (fun i hi => absurd hi (by omega))
    · refine vc_X5_spells_45 hX hk ⟨hw, fun v hv => ⟨fun _ => hK _ (zp_t ?_).symm, fun q => ?_⟩⟩
      · unfold isWd
        rw [Bool.and_eq_true, decide_eq_true_eq, decide_eq_true_eq]
        refine ⟨q4', List.ext_getElem? (fun i => ?_)⟩
        rw [List.getElem?_take, List.getElem?_drop]
        by_cases hi : i < zslen.getD (w - 20) 0
        · rw [if_pos (by omega)]; exact hal i hi
        · rw [if_neg (by omega), List.getElem?_eq_none (by rw [wd_len hw]; omega)]
      · rw [hv] at q
        rw [Int32.le_iff_toInt_le, hnI] at q
        omega
    · have hat : ((M.1 t 0 3) + k).toInt = ((T.1 + j : Nat) : Int) := by simp only [Int32.lt_iff_toInt_lt, Int32.le_iff_toInt_le, ← Int32.toInt_inj, Int32.toInt_add, Int32.toInt_sub, Int32.toInt_mul, Int32.toInt_neg, Int.bmod, Int32.reduceToInt]; omega
      have hnc : ((M.1 t 0 3) + k).toNatClampNeg = T.1 + j := by rw [z_cl]; omega
      refine vc_X5_spells_45 hX hk ⟨hw, fun v hv => ⟨fun q => ?_, fun _ => ⟨zin_of (n := 150) (by rw [hk]; rfl) (by omega) (by omega), hw, by omega, fun v2 h2 => ⟨fun e => ?_, fun e => no ?_⟩⟩⟩⟩
      · rw [hv, Int32.le_iff_toInt_le, hnI] at q
        omega
      · rw [hnc] at e
        refine ih (k + 1) (z_inc hk1 (by omega)) (fun i hi => ?_)
        by_cases hij : i < j
        · exact hal i hij
        · have : i = j := by omega
          subst this
          have hl := hB.lo (p := T.1 + i) (by omega)
          rw [wd_get hw hj]
          have : b[T.1 + i]? = some (atB b (T.1 + i)) := by
            unfold atB
            rw [List.getElem?_eq_getElem (by omega)]; rfl
          rw [this, ← hl.2, e, h2]
          congr 4
          omega
      · intro ew
        unfold isWd at ew
        rw [Bool.and_eq_true, decide_eq_true_eq, decide_eq_true_eq] at ew
        have e2 := congrArg (fun l => l[j]?) ew.2
        simp only [List.getElem?_take, List.getElem?_drop] at e2
        rw [if_pos (by omega), wd_get hw hj, List.getElem?_eq_getElem (by omega)] at e2
        have hl := hB.lo (p := T.1 + j) (by omega)
        unfold atB at hl
        rw [List.getElem?_eq_getElem (by omega)] at hl
        apply e
        rw [hnc, ← Int32.toInt_inj, hl.2, h2]
        rw [show k.toInt.toNat = j by omega]
        exact Option.some.inj e2
  · simp only [Int32.lt_iff_toInt_lt, Int32.le_iff_toInt_le, ← Int32.toInt_inj, Int32.toInt_add, Int32.toInt_sub, Int32.toInt_mul, Int32.toInt_neg, Int.bmod, Int32.reduceToInt] at q2; omega
theorem ms_X5_spells : zMS 5 yX5_spells cX5_spells 3 (some .boolean) sp_X5_spells := by
  intro d hd
  obtain ⟨d', rfl⟩ : ∃ d', d = d' + 5 := ⟨d - 5, by omega⟩
  refine zmethod (tab := tb_X5_spells) (cut := [(45, [])]) (by decide) (tk_X5_spells d' ms_J0_length_8abf5 ms_J0_charAt_5068e) ?_
  intro kd as M K h
  unfold sp_X5_spells at h
  split at h
  · rename_i t w
    exact ⟨Nat.le_of_ble_eq_true rfl, fun X hX => mt_X5_spells hX t w M h⟩
  · exact h.elim

