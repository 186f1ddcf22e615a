theorem zst {M : zM} {t u : Nat} {S : zB} (h : u ≠ t) : zbs M t S = zbs (zbs M t S) u (M.1 u) := by
  rw [← zbs_ne (S := S) h]
  exact zbs_self.symm
theorem num_ok {S : zB} {b : List Int} {T : Tk} {lo hi : Int} (h : RpK S b T) (hn : numIs T lo hi = true) : (S 0 5).toInt = T.2.2.1 ∧ lo ≤ T.2.2.1 ∧ T.2.2.1 ≤ hi := by
  unfold numIs at hn
  rw [Bool.and_eq_true, decide_eq_true_eq, decide_eq_true_eq] at hn
  exact ⟨h.2.2.2.2.1 hn.1, hn.2⟩
theorem k73 {kd : Nat → Nat} {t u : Nat} (h : kd t = 7) (g : kd u = 3) : u ≠ t ∧ t ≠ u := ⟨fun e => by subst e; omega, fun e => by subst e; omega⟩
set_option maxRecDepth 20000 in
theorem mt_X7_within {kd : Nat → Nat} {K : zK} {X : zX} (hX : ∀ (n pc : Nat) (ls : zLS) (st : List zV) (M : zM), zrun (tb_X7_within kd K) [] n X pc ls st M → X pc ls st M) (x : Int32) (i : Int32) (n : Int32) (M : zM) (h : ∀ v : Int32, (v = zp (i.toInt ≤ x.toInt ∧ x.toInt ≤ n.toInt)) → K (some (zI v)) M) : X 0 [some (zI (x)), some (zI (i)), some (zI (n))] [] M := by
  refine vc_X7_within_0 hX ⟨fun q => h _ (zp_f ?_).symm, fun q => ⟨fun q2 => h _ (zp_f ?_).symm, fun q2 => h _ (zp_t ?_).symm⟩⟩ <;> simp only [Int32.lt_iff_toInt_lt] at * <;> omega
theorem ms_X7_within : zMS 1 yX7_within cX7_within 3 (some .boolean) sp_X7_within := by
  intro d hd
  obtain ⟨d', rfl⟩ : ∃ d', d = d' + 1 := ⟨d - 1, by omega⟩
  refine zmethod (tab := tb_X7_within) (cut := []) (by decide) (tk_X7_within d' ) ?_
  intro kd as M K h
  unfold sp_X7_within at h
  split at h
  · rename_i x i n
    exact ⟨Nat.le_of_ble_eq_true rfl, fun X hX => mt_X7_within hX x i n M h⟩
  · exact h.elim

set_option maxRecDepth 20000 in
theorem mt_X1_stops {kd : Nat → Nat} {K : zK} {X : zX} (hX : ∀ (n pc : Nat) (ls : zLS) (st : List zV) (M : zM), zrun (tb_X1_stops kd K) [] n X pc ls st M → X pc ls st M) (t : Nat) (M : zM) (h : (kd t = 7) ∧ ∃ b : List Int, ∃ T : Tk, (RpK (M.1 t) b T) ∧ ∀ v : Int32, (v = zp ((tok b T.2.2.2).2.1 = 2)) → ∀ S' : zB, (RpK S' b (tok b T.2.2.2)) → ∀ M' : zM, (M' = zbs M t S') → K (some (zI v)) M') : X 0 [some (zR t 0)] [] M := by
  obtain ⟨hk, b, T, hT, hK⟩ := h
  refine vc_X1_stops_0 hX hk ⟨b, hT.1, T.2.2.2, hT.2.1, hT.2.2.2.2.2.2, fun S1 hS M1 e1 => ⟨fun q => hK _ (zp_f ?_).symm S1 hS M1 e1, fun q => hK _ (zp_t ?_).symm S1 hS M1 e1⟩⟩
  · rw [e1, zbs_at, ← Int32.toInt_inj, hS.2.2.2.1] at q; exact q
  · rw [e1, zbs_at, ← Int32.toInt_inj, hS.2.2.2.1] at q; exact q
theorem ms_X1_stops : zMS 4 yX1_stops cX1_stops 1 (some .boolean) sp_X1_stops := by
  intro d hd
  obtain ⟨d', rfl⟩ : ∃ d', d = d' + 4 := ⟨d - 4, by omega⟩
  refine zmethod (tab := tb_X1_stops) (cut := []) (by decide) (tk_X1_stops d' ms_X5_cutNext) ?_
  intro kd as M K h
  unfold sp_X1_stops at h
  split at h
  · rename_i t
    exact ⟨Nat.le_of_ble_eq_true rfl, fun X hX => mt_X1_stops hX t M h⟩
  · exact h.elim

set_option maxRecDepth 20000 in
theorem mt_X1_numberIs {kd : Nat → Nat} {K : zK} {X : zX} (hX : ∀ (n pc : Nat) (ls : zLS) (st : List zV) (M : zM), zrun (tb_X1_numberIs kd K) [] n X pc ls st M → X pc ls st M) (t : Nat) (i : Int32) (n : Int32) (M : zM) (h : (kd t = 7) ∧ ∃ b : List Int, ∃ T : Tk, (RpK (M.1 t) b T) ∧ ∀ v : Int32, (v = zp (numIs (tok b T.2.2.2) i.toInt n.toInt = true)) → ∀ S' : zB, (RpK S' b (tok b T.2.2.2)) → ∀ M' : zM, (M' = zbs M t S') → K (some (zI v)) M') : X 0 [some (zR t 0), some (zI (i)), some (zI (n))] [] M := by
  obtain ⟨hk, b, T, hT, hK⟩ := h
  refine vc_X1_numberIs_0 hX hk ⟨b, hT.1, T.2.2.2, hT.2.1, hT.2.2.2.2.2.2, fun S1 hS M1 e1 => ⟨fun q => hK _ (zp_f ?_).symm S1 hS M1 e1, fun q v2 h2 => ⟨fun q2 => hK _ (zp_f ?_).symm S1 hS M1 e1, fun q2 => hK _ (zp_t ?_).symm S1 hS M1 e1⟩⟩⟩
  · rw [e1, zbs_at, ← Int32.toInt_inj, hS.2.2.2.1] at q
    have q' : ¬ (tok b T.2.2.2).2.1 = 3 := q
    simp [numIs, q']
  · rw [e1, zbs_at, ← Int32.toInt_inj, hS.2.2.2.1] at q
    have q' : (tok b T.2.2.2).2.1 = 3 := q
    rw [h2, zp_0, e1, zbs_at, hS.2.2.2.2.1 q'] at q2
    intro e
    exact q2 (num_ok hS e).2
  · rw [e1, zbs_at, ← Int32.toInt_inj, hS.2.2.2.1] at q
    have q' : (tok b T.2.2.2).2.1 = 3 := q
    rw [h2, zp_n, e1, zbs_at, hS.2.2.2.2.1 q'] at q2
    unfold numIs
    rw [Bool.and_eq_true, decide_eq_true_eq, decide_eq_true_eq]
    exact ⟨q', q2⟩
theorem ms_X1_numberIs : zMS 4 yX1_numberIs cX1_numberIs 3 (some .boolean) sp_X1_numberIs := by
  intro d hd
  obtain ⟨d', rfl⟩ : ∃ d', d = d' + 4 := ⟨d - 4, by omega⟩
  refine zmethod (tab := tb_X1_numberIs) (cut := []) (by decide) (tk_X1_numberIs d' ms_X5_cutNext ms_X7_within) ?_
  intro kd as M K h
  unfold sp_X1_numberIs at h
  split at h
  · rename_i t i n
    exact ⟨Nat.le_of_ble_eq_true rfl, fun X hX => mt_X1_numberIs hX t i n M h⟩
  · exact h.elim

set_option maxRecDepth 20000 in
theorem mt_X1_yearsOnto {kd : Nat → Nat} {K : zK} {X : zX} (hX : ∀ (n pc : Nat) (ls : zLS) (st : List zV) (M : zM), zrun (tb_X1_yearsOnto kd K) [] n X pc ls st M → X pc ls st M) (t : Nat) (u : Nat) (M : zM) (h : (kd t = 7) ∧ (kd u = 3) ∧ ∃ b : List Int, ∃ T : Tk, (RpK (M.1 t) b T) ∧ ∃ a : Sk, (RpS (M.1 u) a) ∧ ∀ v : Int32, (v = zp ((rdYr b T a).1 = true)) → ∀ S1 : zB, (RpK S1 b (rdYr b T a).2.1) → ∀ S2 : zB, (RpS S2 (rdYr b T a).2.2) → ∀ M' : zM, (M' = zbs (zbs M t S1) u S2) → K (some (zI v)) M') : X 0 [some (zR t 0), some (zR u 0)] [] M := by
  obtain ⟨hk, hu, b, T, hT, a, ha, hK⟩ := h
  obtain ⟨hut, htu⟩ := k73 hk hu
  refine vc_X1_yearsOnto_0 hX hu hk ⟨b, T, hT, fun v1 h1 S1 hS M1 e1 => ⟨fun q => ⟨a, by rw [e1, zbs_ne hut]; exact ha, ?_⟩, fun q => ?_⟩⟩
  · rw [h1, zp_n] at q
    have q' : numIs (tok b T.2.2.2) 1 99 = true := q
    obtain ⟨g1, g2, g3⟩ := num_ok hS q'
    have e5 : (M1.1 t 0 5).toInt = (tok b T.2.2.2).2.2.1 := by rw [e1, zbs_at]; exact g1
    rw [e5]
    refine ⟨by omega, fun S2 h2 M2 e2 => hK _ ?_ S1 ?_ S2 ?_ M2 (by rw [e2, e1])⟩ <;> unfold rdYr <;> rw [if_pos q']
    · exact (zp_t rfl).symm
    · exact hS
    · exact h2
  · rw [h1, zp_0] at q
    have q' : ¬ numIs (tok b T.2.2.2) 1 99 = true := q
    refine hK _ ?_ S1 ?_ (M.1 u) ?_ M1 (by rw [e1]; exact zst hut) <;> unfold rdYr <;> rw [if_neg q']
    · exact (zp_f (by simp)).symm
    · exact hS
    · exact ha
theorem ms_X1_yearsOnto : zMS 5 yX1_yearsOnto cX1_yearsOnto 2 (some .boolean) sp_X1_yearsOnto := by
  intro d hd
  obtain ⟨d', rfl⟩ : ∃ d', d = d' + 5 := ⟨d - 5, by omega⟩
  refine zmethod (tab := tb_X1_yearsOnto) (cut := []) (by decide) (tk_X1_yearsOnto d' ms_X1_numberIs ms_X3_pass) ?_
  intro kd as M K h
  unfold sp_X1_yearsOnto at h
  split at h
  · rename_i t u
    exact ⟨Nat.le_of_ble_eq_true rfl, fun X hX => mt_X1_yearsOnto hX t u M h⟩
  · exact h.elim

set_option maxRecDepth 20000 in
theorem mt_X1_rubOnto {kd : Nat → Nat} {K : zK} {X : zX} (hX : ∀ (n pc : Nat) (ls : zLS) (st : List zV) (M : zM), zrun (tb_X1_rubOnto kd K) [] n X pc ls st M → X pc ls st M) (t : Nat) (u : Nat) (M : zM) (h : (kd t = 7) ∧ (kd u = 3) ∧ ∃ b : List Int, ∃ T : Tk, (RpK (M.1 t) b T) ∧ ∃ a : Sk, (RpS (M.1 u) a) ∧ ∀ v : Int32, (v = zp ((rdRb b T a).1 = true)) → ∀ S1 : zB, (RpK S1 b (rdRb b T a).2.1) → ∀ S2 : zB, (RpS S2 (rdRb b T a).2.2) → ∀ M' : zM, (M' = zbs (zbs M t S1) u S2) → K (some (zI v)) M') : X 0 [some (zR t 0), some (zR u 0)] [] M := by
  obtain ⟨hk, hu, b, T, hT, a, ha, hK⟩ := h
  obtain ⟨hut, htu⟩ := k73 hk hu
  refine vc_X1_rubOnto_0 hX hu hk ⟨b, T, hT, fun v1 h1 S1 hS M1 e1 => ?_⟩
  have ha1 : RpS (M1.1 u) a := by rw [e1, zbs_ne hut]; exact ha
  have no : ¬ (numIs (tok b T.2.2.2) 0 5 && sk_canR a (tok b T.2.2.2).2.2.1) = true → K (some (zI 0)) M1 := by
    intro q'
    refine hK _ ?_ S1 ?_ (M.1 u) ?_ M1 (by rw [e1]; exact zst hut) <;> unfold rdRb <;> rw [if_neg q']
    · exact (zp_f (by simp)).symm
    · exact hS
    · exact ha
  refine ⟨fun q => no ?_, fun q => ?_⟩
  · rw [h1, zp_0] at q
    have q' : ¬ numIs (tok b T.2.2.2) 0 5 = true := q
    simp [q']
  · rw [h1, zp_n] at q
    have q' : numIs (tok b T.2.2.2) 0 5 = true := q
    obtain ⟨g1, g2, g3⟩ := num_ok hS q'
    have e5 : (M1.1 t 0 5).toInt = (tok b T.2.2.2).2.2.1 := by rw [e1, zbs_at]; exact g1
    rw [e5]
    refine ⟨a, ha1, fun v2 h2 => ⟨fun q2 => ?_, fun q2 => no ?_⟩⟩
    · rw [h2, zp_n] at q2
      obtain ⟨l, hl, hl1⟩ := sk_canR_iff.mp q2
      have qq : (numIs (tok b T.2.2.2) 0 5 && sk_canR a (tok b T.2.2.2).2.2.1) = true := by rw [q', q2]; rfl
      refine ⟨a, ha1, l, hl, hl1, fun v3 h3 S3 h4 M3 e3 => hK _ ?_ S1 ?_ S3 ?_ M3 (by rw [e3, e1])⟩ <;> unfold rdRb <;> rw [if_pos qq]
      · exact (zp_t rfl).symm
      · exact hS
      · exact h4
    · rw [h2, zp_0] at q2
      simp [q2]
theorem ms_X1_rubOnto : zMS 5 yX1_rubOnto cX1_rubOnto 2 (some .boolean) sp_X1_rubOnto := by
  intro d hd
  obtain ⟨d', rfl⟩ : ∃ d', d = d' + 5 := ⟨d - 5, by omega⟩
  refine zmethod (tab := tb_X1_rubOnto) (cut := []) (by decide) (tk_X1_rubOnto d' ms_X1_numberIs ms_X3_canScrape ms_X3_scrape) ?_
  intro kd as M K h
  unfold sp_X1_rubOnto at h
  split at h
  · rename_i t u
    exact ⟨Nat.le_of_ble_eq_true rfl, fun X hX => mt_X1_rubOnto hX t u M h⟩
  · exact h.elim

set_option maxRecDepth 20000 in
theorem mt_X1_writeOnto {kd : Nat → Nat} {K : zK} {X : zX} (hX : ∀ (n pc : Nat) (ls : zLS) (st : List zV) (M : zM), zrun (tb_X1_writeOnto kd K) [] n X pc ls st M → X pc ls st M) (t : Nat) (u : Nat) (M : zM) (h : (kd t = 7) ∧ (kd u = 3) ∧ ∃ b : List Int, ∃ T : Tk, (RpK (M.1 t) b T) ∧ ∃ a : Sk, (RpS (M.1 u) a) ∧ ∀ v : Int32, (v = zp ((rdWr b T a).1 = true)) → ∀ S1 : zB, (RpK S1 b (rdWr b T a).2.1) → ∀ S2 : zB, (RpS S2 (rdWr b T a).2.2) → ∀ M' : zM, (M' = zbs (zbs M t S1) u S2) → K (some (zI v)) M') : X 0 [some (zR t 0), some (zR u 0), none, none, none] [] M := by
  obtain ⟨hk, hu, b, T, hT, a, ha, hK⟩ := h
  obtain ⟨hut, htu⟩ := k73 hk hu
  have end_ : ∀ (S : zB) (T' : Tk) (M1 : zM), RpK S b T' → rdWr b T a = (false, T', a) → M1 = zbs M t S → K (some (zI 0)) M1 := by
    intro S T' M1 hS e e1
    refine hK _ ?_ S ?_ (M.1 u) ?_ M1 (by rw [e1]; exact zst hut) <;> rw [e]
    · exact (zp_f (by simp)).symm
    · exact hS
    · exact ha
  refine vc_X1_writeOnto_0 hX hu hk ⟨b, T, hT, fun v1 h1 S1 hS M1 e1 => ?_⟩
  have ha1 : RpS (M1.1 u) a := by rw [e1, zbs_ne hut]; exact ha
  refine ⟨fun q => end_ S1 _ M1 hS ?_ e1, fun q => ?_⟩
  · rw [h1, zp_0] at q
    have q' : ¬ numIs (tok b T.2.2.2) 0 5 = true := q
    unfold rdWr
    rw [if_neg (by simp [q'])]
  rw [h1, zp_n] at q
  have q' : numIs (tok b T.2.2.2) 0 5 = true := q
  obtain ⟨g1, g2, g3⟩ := num_ok hS q'
  have e5 : (M1.1 t 0 5).toInt = (tok b T.2.2.2).2.2.1 := by rw [e1, zbs_at]; exact g1
  rw [e5]
  refine ⟨a, ha1, fun v2 h2 => ⟨fun q2 => ?_, fun q2 => end_ S1 _ M1 hS ?_ e1⟩⟩
  · rw [h2, zp_n] at q2
    have eW : rdWr b T a = rdWr2 b (tok b T.2.2.2).2.2.1 (tok b T.2.2.2) a := by unfold rdWr; rw [if_pos (by rw [q', q2]; rfl)]
    have hW := sk_canW_iff.mp q2
    refine ⟨b, tok b T.2.2.2, by rw [e1, zbs_at]; exact hS, fun v3 h3 S3 hS3 M3 e3 => ?_⟩
    have e3' : M3 = zbs M t S3 := by rw [e3, e1, zbs_bs]
    refine ⟨fun q3 => ?_, fun q3 => end_ S3 _ M3 hS3 ?_ e3'⟩
    · rw [h3, zp_n] at q3
      have q3' : numIs (tok b (tok b T.2.2.2).2.2.2) 0 5 = true := q3
      obtain ⟨k1, k2, k3⟩ := num_ok hS3 q3'
      have e35 : (M3.1 t 0 5).toInt = (tok b (tok b T.2.2.2).2.2.2).2.2.1 := by rw [e3, zbs_at]; exact k1
      have eW2 : rdWr b T a = rdWr3 b (tok b T.2.2.2).2.2.1 (tok b (tok b T.2.2.2).2.2.2).2.2.1 (tok b (tok b T.2.2.2).2.2.2) a := by rw [eW]; unfold rdWr2; rw [if_pos q3']
      rw [e35]
      refine ⟨b, _, by rw [e3, zbs_at]; exact hS3, fun v4 h4 S4 hS4 M4 e4 => ?_⟩
      have e4' : M4 = zbs M t S4 := by rw [e4, e3', zbs_bs]
      refine ⟨fun q4 => ?_, fun q4 => end_ S4 _ M4 hS4 ?_ e4'⟩
      · rw [h4, zp_n] at q4
        have q4' : numIs (tok b (tok b (tok b T.2.2.2).2.2.2).2.2.2) 0 4 = true := q4
        obtain ⟨l1, l2, l3⟩ := num_ok hS4 q4'
        have e45 : (M4.1 t 0 5).toInt = (tok b (tok b (tok b T.2.2.2).2.2.2).2.2.2).2.2.1 := by rw [e4, zbs_at]; exact l1
        have eW3 : rdWr b T a = rdWr4 b (tok b T.2.2.2).2.2.1 (tok b (tok b T.2.2.2).2.2.2).2.2.1 (tok b (tok b (tok b T.2.2.2).2.2.2).2.2.2).2.2.1 (tok b (tok b (tok b T.2.2.2).2.2.2).2.2.2) a := by rw [eW2]; unfold rdWr3; rw [if_pos q4']
        rw [e45]
        refine ⟨b, _, by rw [e4, zbs_at]; exact hS4, fun v5 h5 S5 hS5 M5 e5x => ?_⟩
        have e5' : M5 = zbs M t S5 := by rw [e5x, e4', zbs_bs]
        refine ⟨fun q5 => ?_, fun q5 => end_ S5 _ M5 hS5 ?_ e5'⟩
        · rw [h5, zp_n] at q5
          have q5' : numIs (tok b (tok b (tok b (tok b T.2.2.2).2.2.2).2.2.2).2.2.2) 0 1 = true := q5
          obtain ⟨m1, m2, m3⟩ := num_ok hS5 q5'
          have e55 : (M5.1 t 0 5).toInt = (tok b (tok b (tok b (tok b T.2.2.2).2.2.2).2.2.2).2.2.2).2.2.1 := by rw [e5x, zbs_at]; exact m1
          rw [e55]
          have eW4 : rdWr b T a = (true, tok b (tok b (tok b (tok b T.2.2.2).2.2.2).2.2.2).2.2.2, sk_wr a (tok b T.2.2.2).2.2.1 (tok b (tok b T.2.2.2).2.2.2).2.2.1 (tok b (tok b (tok b T.2.2.2).2.2.2).2.2.2).2.2.1 (tok b (tok b (tok b (tok b T.2.2.2).2.2.2).2.2.2).2.2.2).2.2.1) := by rw [eW3]; unfold rdWr4; rw [if_pos q5']
          refine ⟨a, by rw [e5', zbs_ne hut]; exact ha, hW.1, hW.2.1, ⟨k2, k3⟩, ⟨l2, l3⟩, by omega, fun v6 h6 S6 hS6 M6 e6 => hK _ ?_ S5 ?_ S6 ?_ M6 (by rw [e6, e5'])⟩ <;> rw [eW4]
          · exact (zp_t rfl).symm
          · exact hS5
          · exact hS6
        · rw [h5, zp_0] at q5
          have q5' : ¬ numIs (tok b (tok b (tok b (tok b T.2.2.2).2.2.2).2.2.2).2.2.2) 0 1 = true := q5
          rw [eW3]; unfold rdWr4; rw [if_neg q5']
      · rw [h4, zp_0] at q4
        have q4' : ¬ numIs (tok b (tok b (tok b T.2.2.2).2.2.2).2.2.2) 0 4 = true := q4
        rw [eW2]; unfold rdWr3; rw [if_neg q4']
    · rw [h3, zp_0] at q3
      have q3' : ¬ numIs (tok b (tok b T.2.2.2).2.2.2) 0 5 = true := q3
      rw [eW]; unfold rdWr2; rw [if_neg q3']
  · rw [h2, zp_0] at q2
    unfold rdWr
    rw [if_neg (by simp [q2])]
theorem ms_X1_writeOnto : zMS 5 yX1_writeOnto cX1_writeOnto 5 (some .boolean) sp_X1_writeOnto := by
  intro d hd
  obtain ⟨d', rfl⟩ : ∃ d', d = d' + 5 := ⟨d - 5, by omega⟩
  refine zmethod (tab := tb_X1_writeOnto) (cut := []) (by decide) (tk_X1_writeOnto d' ms_X1_numberIs ms_X3_canCover ms_X3_cover) ?_
  intro kd as M K h
  unfold sp_X1_writeOnto at h
  split at h
  · rename_i t u
    exact ⟨Nat.le_of_ble_eq_true rfl, fun X hX => mt_X1_writeOnto hX t u M h⟩
  · exact h.elim

set_option maxRecDepth 20000 in
theorem mt_X1_itemOnto {kd : Nat → Nat} {K : zK} {X : zX} (hX : ∀ (n pc : Nat) (ls : zLS) (st : List zV) (M : zM), zrun (tb_X1_itemOnto kd K) [] n X pc ls st M → X pc ls st M) (t : Nat) (u : Nat) (M : zM) (h : (kd t = 7) ∧ (kd u = 3) ∧ ∃ b : List Int, ∃ T : Tk, (RpK (M.1 t) b T) ∧ ∃ a : Sk, (RpS (M.1 u) a) ∧ ∀ v : Int32, (v = zp ((rdIt b T a).1 = true)) → ∀ S1 : zB, (RpK S1 b (rdIt b T a).2.1) → ∀ S2 : zB, (RpS S2 (rdIt b T a).2.2) → ∀ M' : zM, (M' = zbs (zbs M t S1) u S2) → K (some (zI v)) M') : X 0 [some (zR t 0), some (zR u 0)] [] M := by
  obtain ⟨hk, hu, b, T, hT, a, ha, hK⟩ := h
  obtain ⟨hut, htu⟩ := k73 hk hu
  refine vc_X1_itemOnto_0 hX hu hk ⟨b, T, hT, by omega, fun v1 h1 => ⟨fun q1 => ⟨b, T, hT, by omega, fun v2 h2 => ⟨fun q2 => ⟨b, T, hT, by omega, fun v3 h3 => ⟨fun q3 => ?_, fun q3 => ⟨b, T, hT, a, ha, fun v4 h4 S1 hS1 S2 hS2 M4 e4 => ?_⟩⟩⟩, fun q2 => ⟨b, T, hT, a, ha, fun v5 h5 S1 hS1 S2 hS2 M5 e5 => ?_⟩⟩⟩, fun q1 => ⟨b, T, hT, a, ha, fun v6 h6 S1 hS1 S2 hS2 M6 e6 => ?_⟩⟩⟩
  · rw [h1, zp_0] at q1
    rw [h2, zp_0] at q2
    rw [h3, zp_0] at q3
    have e : rdIt b T a = (false, T, a) := by unfold rdIt; rw [if_neg q1, if_neg q2, if_neg q3]
    refine hK _ ?_ (M.1 t) ?_ (M.1 u) ?_ M ?_
    · rw [e]; exact (zp_f (by simp)).symm
    · rw [e]; exact hT
    · rw [e]; exact ha
    · rw [zbs_self, zbs_self]
  · rw [h1, zp_0] at q1
    rw [h2, zp_0] at q2
    rw [h3, zp_n] at q3
    have e : rdIt b T a = rdYr b T a := by unfold rdIt; rw [if_neg q1, if_neg q2, if_pos q3]
    rw [← e] at h4 hS1 hS2
    refine ⟨fun q => ?_, fun q => ?_⟩
    · have := hK _ h4 S1 hS1 S2 hS2 M4 e4
      rw [q] at this; exact this
    · have := hK _ h4 S1 hS1 S2 hS2 M4 e4
      rw [h4, zp_n] at q
      rw [h4, zp_t q] at this; exact this
  · rw [h1, zp_0] at q1
    rw [h2, zp_n] at q2
    have e : rdIt b T a = rdRb b T a := by unfold rdIt; rw [if_neg q1, if_pos q2]
    rw [← e] at h5 hS1 hS2
    exact ⟨by rw [h5]; exact zp_01, hK _ h5 S1 hS1 S2 hS2 M5 e5⟩
  · rw [h1, zp_n] at q1
    have e : rdIt b T a = rdWr b T a := by unfold rdIt; rw [if_pos q1]
    rw [← e] at h6 hS1 hS2
    exact ⟨by rw [h6]; exact zp_01, hK _ h6 S1 hS1 S2 hS2 M6 e6⟩
theorem ms_X1_itemOnto : zMS 6 yX1_itemOnto cX1_itemOnto 2 (some .boolean) sp_X1_itemOnto := by
  intro d hd
  obtain ⟨d', rfl⟩ : ∃ d', d = d' + 6 := ⟨d - 6, by omega⟩
  refine zmethod (tab := tb_X1_itemOnto) (cut := []) (by decide) (tk_X1_itemOnto d' ms_X5_spells ms_X1_writeOnto ms_X1_rubOnto ms_X1_yearsOnto) ?_
  intro kd as M K h
  unfold sp_X1_itemOnto at h
  split at h
  · rename_i t u
    exact ⟨Nat.le_of_ble_eq_true rfl, fun X hX => mt_X1_itemOnto hX t u M h⟩
  · exact h.elim

set_option maxRecDepth 20000 in
theorem mt_X1_rollInto {kd : Nat → Nat} {K : zK} {X : zX} (hX : ∀ (n pc : Nat) (ls : zLS) (st : List zV) (M : zM), zrun (tb_X1_rollInto kd K) [(32, [])] n X pc ls st M → X pc ls st M) (t : Nat) (u : Nat) (M : zM) (h : (kd t = 7) ∧ (kd u = 3) ∧ ∃ b : List Int, (RpB (M.1 t) b) ∧ ∀ v : Int32, (v.toInt = (rdAll b).1) → ∀ S1 : zB, (RpK S1 b (rdAll b).2.1) → ∀ S2 : zB, (RpS S2 (rdAll b).2.2) → ∀ M' : zM, (M' = zbs (zbs M t S1) u S2) → K (some (zI v)) M') : X 0 [some (zR t 0), some (zR u 0), none] [] M := by
  obtain ⟨hk, hu, b, hB, hK⟩ := h
  obtain ⟨hut, htu⟩ := k73 hk hu
  have loop : ∀ (f : Nat) (n : Int32) (T : Tk) (a : Sk) (M : zM), f ≤ 150 → n.toInt = 151 - (f : Int) → RpK (M.1 t) b T → RpS (M.1 u) a → (∀ v : Int32, v.toInt = (rdLp b f T a n.toInt).1 → ∀ S1 : zB, RpK S1 b (rdLp b f T a n.toInt).2.1 → ∀ S2 : zB, RpS S2 (rdLp b f T a n.toInt).2.2 → ∀ M' : zM, M' = zbs (zbs M t S1) u S2 → K (some (zI v)) M') → X 32 [some (zR t 0), some (zR u 0), some (zI n)] [] M := by
    intro f
    induction f with
    | zero =>
      intro n T a M hf hn hT ha hK
      refine vc_X1_rollInto_32 hX hk hu ⟨fun _ => ?_, fun q => by simp only [Int32.lt_iff_toInt_lt, Int32.le_iff_toInt_le, ← Int32.toInt_inj, Int32.toInt_add, Int32.toInt_sub, Int32.toInt_mul, Int32.toInt_neg, Int.bmod, Int32.reduceToInt] at q; omega⟩
      exact hK n rfl (M.1 t) hT (M.1 u) ha M (by rw [zbs_self, zbs_self])
    | succ f ih =>
      intro n T a M hf hn hT ha hK
      refine vc_X1_rollInto_32 hX hk hu ⟨fun q => by simp only [Int32.lt_iff_toInt_lt, Int32.le_iff_toInt_le, ← Int32.toInt_inj, Int32.toInt_add, Int32.toInt_sub, Int32.toInt_mul, Int32.toInt_neg, Int.bmod, Int32.reduceToInt] at q; omega, fun _ => ⟨fun q => ?_, fun q => ⟨b, T, hT, a, ha, fun v1 h1 S1 hS1 S2 hS2 M1 e1 => ?_⟩⟩⟩
      · rw [← Int32.toInt_inj, hT.2.2.2.1] at q
        have q' : T.2.1 = 0 := q
        have e : rdLp b (f + 1) T a n.toInt = (n.toInt, T, a) := by unfold rdLp; rw [if_pos q']
        rw [e] at hK
        exact hK n rfl (M.1 t) hT (M.1 u) ha M (by rw [zbs_self, zbs_self])
      · rw [← Int32.toInt_inj, hT.2.2.2.1] at q
        have q' : ¬ T.2.1 = 0 := q
        have g1 : M1.1 t = S1 := by rw [e1, zbs_ne htu, zbs_at]
        have g2 : M1.1 u = S2 := by rw [e1, zbs_at]
        refine ⟨fun q1 => ?_, fun q1 => ⟨b, _, by rw [g1]; exact hS1, fun v2 h2 S3 hS3 M2 e2 => ?_⟩⟩
        · rw [h1, zp_0] at q1
          have e : rdLp b (f + 1) T a n.toInt = (-1, (rdIt b T a).2.1, (rdIt b T a).2.2) := by unfold rdLp; rw [if_neg q', if_neg q1]
          rw [e] at hK
          exact hK _ rfl S1 hS1 S2 hS2 M1 e1
        · rw [h1, zp_n] at q1
          have g3 : M2.1 t = S3 := by rw [e2, zbs_at]
          have e2' : M2 = zbs (zbs M t S3) u S2 := by rw [e2, e1, zbs_cm hut, zbs_bs]
          refine ⟨fun q2 => ⟨b, by rw [g3]; exact hS3.1, _, by rw [g3]; exact hS3.2.1, hS3.2.2.2.2.2.2, fun S4 hS4 M3 e3 => ?_⟩, fun q2 => ?_⟩
          · rw [h2, zp_n] at q2
            have e : rdLp b (f + 1) T a n.toInt = rdLp b f (tok b (tok b (rdIt b T a).2.1.2.2.2).2.2.2) (rdIt b T a).2.2 (n.toInt + 1) := by
              conv => lhs; unfold rdLp
              rw [if_neg q', if_pos q1, if_pos q2]
            rw [e] at hK
            have hn1 : (n + 1).toInt = n.toInt + 1 := by simp only [Int32.lt_iff_toInt_lt, Int32.le_iff_toInt_le, ← Int32.toInt_inj, Int32.toInt_add, Int32.toInt_sub, Int32.toInt_mul, Int32.toInt_neg, Int.bmod, Int32.reduceToInt]; omega
            refine ih (n + 1) _ (rdIt b T a).2.2 M3 (by omega) (by rw [hn1]; omega) (by rw [e3, zbs_at]; exact hS4) (by rw [e3, zbs_ne hut, e2', zbs_at]; exact hS2) ?_
            rw [hn1]
            refine fun v hv S5 hS5 S6 hS6 M' e' => hK v hv S5 hS5 S6 hS6 M' ?_
            rw [e', e3, e2', zbs_bs, zbs_cm hut, zbs_bs, zbs_bs]
          · rw [h2, zp_0] at q2
            have e : rdLp b (f + 1) T a n.toInt = (-1, tok b (rdIt b T a).2.1.2.2.2, (rdIt b T a).2.2) := by unfold rdLp; rw [if_neg q', if_pos q1, if_neg q2]
            rw [e] at hK
            exact hK _ rfl S3 hS3 S2 hS2 M2 e2'
  refine vc_X1_rollInto_0 hX hk hu (fun S1 hS1 M1 e1 => ⟨b, by rw [e1, zbs_ne htu]; exact hB, fun S2 hS2 M2 e2 => ?_⟩)
  have f2 : M2 = zbs (zbs M t S2) u S1 := by rw [e2, e1, zbs_cm hut]
  have g2 : M2.1 t = S2 := by rw [e2, zbs_at]
  refine ⟨b, _, by rw [g2]; exact hS2, by omega, fun v3 h3 => ⟨fun q3 => ?_, fun q3 => ⟨b, _, by rw [g2]; exact hS2, fun v4 h4 S4 hS4 M4 e4 => ?_⟩⟩⟩
  · rw [h3, zp_0] at q3
    have e : rdAll b = (-1, tok b 0, sk_0) := by unfold rdAll; rw [if_neg q3]
    rw [e] at hK
    exact hK _ rfl S2 hS2 S1 hS1 M2 f2
  · rw [h3, zp_n] at q3
    have f4 : M4 = zbs (zbs M t S4) u S1 := by rw [e4, f2, zbs_cm hut, zbs_bs]
    have g4 : M4.1 t = S4 := by rw [e4, zbs_at]
    refine ⟨fun q4 => ⟨b, by rw [g4]; exact hS4.1, _, by rw [g4]; exact hS4.2.1, hS4.2.2.2.2.2.2, fun S5 hS5 M5 e5 => ?_⟩, fun q4 => ?_⟩
    · rw [h4, zp_n] at q4
      have f5 : M5 = zbs (zbs M t S5) u S1 := by rw [e5, f4, zbs_cm hut, zbs_bs]
      have e : rdAll b = rdLp b 150 (tok b (tok b (tok b 0).2.2.2).2.2.2) sk_0 1 := by unfold rdAll; rw [if_pos q3, if_pos q4]
      rw [e] at hK
      refine loop 150 1 _ sk_0 M5 (by omega) rfl (by rw [e5, zbs_at]; exact hS5) (by rw [f5, zbs_at]; exact hS1) (fun v hv S6 hS6 S7 hS7 M' e' => hK v hv S6 hS6 S7 hS7 M' ?_)
      rw [e', f5, zbs_cm hut, zbs_bs, zbs_bs]
    · rw [h4, zp_0] at q4
      have e : rdAll b = (-1, tok b (tok b 0).2.2.2, sk_0) := by unfold rdAll; rw [if_pos q3, if_neg q4]
      rw [e] at hK
      exact hK _ rfl S4 hS4 S1 hS1 M4 f4
theorem ms_X1_rollInto : zMS 7 yX1_rollInto cX1_rollInto 3 (some .int) sp_X1_rollInto := by
  intro d hd
  obtain ⟨d', rfl⟩ : ∃ d', d = d' + 7 := ⟨d - 7, by omega⟩
  refine zmethod (tab := tb_X1_rollInto) (cut := [(32, [])]) (by decide) (tk_X1_rollInto d' ms_X3_wipe ms_X5_cutFirst ms_X5_spells ms_X1_stops ms_X5_cutNext ms_X1_itemOnto) ?_
  intro kd as M K h
  unfold sp_X1_rollInto at h
  split at h
  · rename_i t u
    exact ⟨Nat.le_of_ble_eq_true rfl, fun X hX => mt_X1_rollInto hX t u M h⟩
  · exact h.elim

