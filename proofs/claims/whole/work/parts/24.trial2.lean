theorem isFst_no {p : Nat → Bool} {N : Nat} {v : Int} (h : isFst p N v) : (v = -1 ↔ (List.range N).any p = false) := by
  rcases h with ⟨rfl, h⟩ | ⟨w, h1, rfl, h3, -⟩
  · refine ⟨fun _ => ?_, fun _ => rfl⟩
    rw [List.any_eq_false]
    intro x hx
    rw [h x (List.mem_range.mp hx)]
    decide
  · refine ⟨fun e => by omega, fun e => ?_⟩
    rw [List.any_eq_false] at e
    exact absurd h3 (e w (List.mem_range.mpr h1))
theorem tr_do_sk {a : Sk} {w g e : Int} (h : w < 20) : tr_do a w g e = sk_do a w g e := by unfold tr_do; rw [if_neg (by omega)]
set_option maxRecDepth 20000 in
theorem mt_X6_firstOfRow {m : Nat} {kd : Nat → Nat} {K : zK} {X : zX} (hX : ∀ (n pc : Nat) (ls : zLS) (st : List zV) (M : zM), zrun (tb_X6_firstOfRow kd K (sp_X6_firstOfRow (m - 1))) [(14, [4])] n X pc ls st M → X pc ls st M) (t : Nat) (q : Int32) (n : Int32) (M : zM) (h : (kd t = 6) ∧ (kd (t + 1) = 3) ∧ ∃ a : Sk, ∃ g : Int, ∃ y : Int, (RpR M t a g y) ∧ (n.toInt = Int.ofNat m) ∧ (m = 1 ∨ m = 2) ∧ (q.toInt = 1 ∨ q.toInt = 2) ∧ ∀ v : Int32, (isFst (fun w => sk_may a w && rowOk g y q.toInt (m - 1) (sk_do a w g (le12 q.toInt))) 20 v.toInt) → ∀ M' : zM, (trF M t M') → (RpR M' t (a) g y) → K (some (zI v)) M') : X 0 [some (zR t 0), some (zI (q)), some (zI (n)), none, none] [] M := by
  obtain ⟨hk, hk1, a, g, y, hR, hn, hm, hq, hK⟩ := h
  have hn' : n.toInt = m := hn
  refine vc_X6_firstOfRow_0 hX ⟨fun q1 => ?_, fun _ => ⟨fun _ => ?_, fun q1 => ?_⟩⟩
  · simp only [Int32.lt_iff_toInt_lt, Int32.le_iff_toInt_le, ← Int32.toInt_inj, Int32.toInt_add, Int32.toInt_sub, Int32.toInt_mul, Int32.toInt_neg, Int.bmod, Int32.reduceToInt] at q1; omega
  · refine up (N := 20) (Q := fun k => ∀ (w : Int32) (N : zM), w.toInt = k → trF M t N → RpR N t a g y → (∀ w' : Nat, w' < k → (sk_may a w' && rowOk g y q.toInt (m - 1) (sk_do a w' g (le12 q.toInt))) = false) → X 14 [some (zR t 0), some (zI q), some (zI n), some (zI w), none] [] N) (fun w N hw tN rN hno => ?_) (fun k hk20 ih w N hw tN rN hno => ?_) 0 (by omega) 0 M rfl trF.rf hR (fun w' h => by omega)
    · refine vc_X6_firstOfRow_14 hX hk1 hk ⟨fun _ => hK _ (Or.inl ⟨rfl, hno⟩) N tN rN, fun q1 => ?_⟩
      simp only [Int32.lt_iff_toInt_lt, Int32.le_iff_toInt_le, ← Int32.toInt_inj, Int32.toInt_add, Int32.toInt_sub, Int32.toInt_mul, Int32.toInt_neg, Int.bmod, Int32.reduceToInt] at q1; omega
    · have go : ∀ N', trF N t N' → RpR N' t a g y → (sk_may a w.toInt && rowOk g y q.toInt (m - 1) (sk_do a w.toInt g (le12 q.toInt))) = false → X 14 [some (zR t 0), some (zI q), some (zI n), some (zI (w + 1)), none] [] N' := fun N' t' r' hf => ih (w + 1) N' (z_inc hw (by omega)) (tN.tr t') r' (fun w' hw' => by
        by_cases he : w' = k
        · subst he; rw [hw] at hf; exact hf
        · exact hno w' (by omega))
      have yes : ∀ N', trF N t N' → RpR N' t a g y → sk_may a w.toInt = true → rowOk g y q.toInt (m - 1) (sk_do a w.toInt g (le12 q.toInt)) = true → K (some (zI w)) N' := fun N' t' r' h1 h2 => hK w (Or.inr ⟨k, hk20, hw, by rw [hw] at h1 h2; simp [h1, h2], fun w' hw' => hno w' hw'⟩) N' (tN.tr t') r'
      refine vc_X6_firstOfRow_14 hX hk1 hk ⟨fun q1 => ?_, fun _ => ⟨a, rN.1, by omega, fun v1 hv1 => ⟨fun h1 => ?_, fun h1 => go N trF.rf rN ?_⟩⟩⟩
      · simp only [Int32.lt_iff_toInt_lt, Int32.le_iff_toInt_le, ← Int32.toInt_inj, Int32.toInt_add, Int32.toInt_sub, Int32.toInt_mul, Int32.toInt_neg, Int.bmod, Int32.reduceToInt] at q1; omega
      · rw [hv1, zp_n] at h1
        have hmay : tr_may a w.toInt = true := by simp [tr_may, h1]
        have haft : ∀ e : Int, tr_aft a w.toInt (sk_do a w.toInt g e) := fun e => by
          have := tr_do_aft (th := g) (le := e) hmay
          rw [tr_do_sk (by omega)] at this
          exact this
        refine ⟨fun hq1 => ⟨a, g, y, rN, by omega, hmay, by decide, fun M2 t2 r2 => ?_⟩, fun hq1 => ⟨a, g, y, rN, by omega, hmay, by decide, fun M2 t2 r2 => ?_⟩⟩
        all_goals
          have r2' : RpR M2 t (sk_do a w.toInt g (le12 q.toInt)) g y := by
            rw [tr_do_sk (by omega)] at r2
            simp only [Int32.lt_iff_toInt_lt, Int32.le_iff_toInt_le, ← Int32.toInt_inj, Int32.toInt_add, Int32.toInt_sub, Int32.toInt_mul, Int32.toInt_neg, Int.bmod, Int32.reduceToInt] at hq1
            unfold le12
            first
              | (rw [if_pos hq1]; exact r2)
              | (rw [if_neg hq1]; exact r2)
          refine ⟨fun hn1 => ⟨_, g, y, r2', ?_, ?_, hq, fun v3 hv3 M3 t3 r3 => ⟨fun h3 => ⟨_, g, y, r3, a, rN.1.1, by omega, haft _, fun M4 t4 r4 => go M4 ((t2.tr t3).tr t4) r4 ?_⟩, fun h3 => ⟨_, g, y, r3, a, rN.1.1, by omega, haft _, fun M4 t4 r4 => yes M4 ((t2.tr t3).tr t4) r4 h1 ?_⟩⟩⟩, fun hn1 => ⟨_, g, y, r2', fun v6 hv6 => ⟨fun h6 => ⟨_, g, y, r2', a, rN.1.1, by omega, haft _, fun M4 t4 r4 => go M4 (t2.tr t4) r4 ?_⟩, fun h6 => ⟨_, g, y, r2', a, rN.1.1, by omega, haft _, fun M4 t4 r4 => yes M4 (t2.tr t4) r4 h1 ?_⟩⟩⟩⟩
          · simp only [Int32.lt_iff_toInt_lt, Int32.le_iff_toInt_le, ← Int32.toInt_inj, Int32.toInt_add, Int32.toInt_sub, Int32.toInt_mul, Int32.toInt_neg, Int.bmod, Int32.reduceToInt] at hn1
            show _ = ((m - 1 : Nat) : Int)
            simp only [Int32.lt_iff_toInt_lt, Int32.le_iff_toInt_le, ← Int32.toInt_inj, Int32.toInt_add, Int32.toInt_sub, Int32.toInt_mul, Int32.toInt_neg, Int.bmod, Int32.reduceToInt]
            omega
          · simp only [Int32.lt_iff_toInt_lt, Int32.le_iff_toInt_le, ← Int32.toInt_inj, Int32.toInt_add, Int32.toInt_sub, Int32.toInt_mul, Int32.toInt_neg, Int.bmod, Int32.reduceToInt] at hn1
            omega
          · simp only [Int32.lt_iff_toInt_lt, Int32.le_iff_toInt_le, ← Int32.toInt_inj, Int32.toInt_add, Int32.toInt_sub, Int32.toInt_mul, Int32.toInt_neg, Int.bmod, Int32.reduceToInt] at hn1
            have hm2 : m = 2 := by omega
            subst hm2
            have h0 := (isFst_no hv3).mp (by rw [h3]; rfl)
            rw [show rowOk g y q.toInt (2 - 1) (sk_do a w.toInt g (le12 q.toInt)) = false from h0]
            simp
          · simp only [Int32.lt_iff_toInt_lt, Int32.le_iff_toInt_le, ← Int32.toInt_inj, Int32.toInt_add, Int32.toInt_sub, Int32.toInt_mul, Int32.toInt_neg, Int.bmod, Int32.reduceToInt] at hn1
            have hm2 : m = 2 := by omega
            subst hm2
            cases hr : rowOk g y q.toInt (2 - 1) (sk_do a w.toInt g (le12 q.toInt)) with
            | true => rfl
            | false => exact absurd (Int32.toInt_inj.mp ((isFst_no hv3).mpr hr)) h3
          · simp only [Int32.lt_iff_toInt_lt, Int32.le_iff_toInt_le, ← Int32.toInt_inj, Int32.toInt_add, Int32.toInt_sub, Int32.toInt_mul, Int32.toInt_neg, Int.bmod, Int32.reduceToInt] at hn1
            have hm1 : m = 1 := by omega
            subst hm1
            rw [← Int32.toInt_inj, hv6] at h6
            rw [show rowOk g y q.toInt (1 - 1) (sk_do a w.toInt g (le12 q.toInt)) = false from by simp [rowOk, h6]]
            simp
          · simp only [Int32.lt_iff_toInt_lt, Int32.le_iff_toInt_le, ← Int32.toInt_inj, Int32.toInt_add, Int32.toInt_sub, Int32.toInt_mul, Int32.toInt_neg, Int.bmod, Int32.reduceToInt] at hn1
            have hm1 : m = 1 := by omega
            subst hm1
            rw [← Int32.toInt_inj, hv6] at h6
            simp [rowOk, h6]
      · rw [hv1, zp_0] at h1
        simp [h1]
  · simp only [Int32.lt_iff_toInt_lt, Int32.le_iff_toInt_le, ← Int32.toInt_inj, Int32.toInt_add, Int32.toInt_sub, Int32.toInt_mul, Int32.toInt_neg, Int.bmod, Int32.reduceToInt] at q1; omega
theorem msF0 (m d : Nat) (hm : ¬ (m = 1 ∨ m = 2)) : zMet d yX6_firstOfRow cX6_firstOfRow 5 (some .int) (sp_X6_firstOfRow m) := by
  intro l D cy ad bl as M K sz h
  unfold sp_X6_firstOfRow at h
  split at h
  · obtain ⟨-, -, -, -, -, -, -, h9, -⟩ := h
    exact absurd h9 hm
  · exact h.elim
theorem msF (m d : Nat) (hrec : zMet (d + 5) yX6_firstOfRow cX6_firstOfRow 5 (some .int) (sp_X6_firstOfRow (m - 1))) : zMet (d + 5 + 1) yX6_firstOfRow cX6_firstOfRow 5 (some .int) (sp_X6_firstOfRow m) := by
  refine zmethod (tab := fun kd K => tb_X6_firstOfRow kd K (sp_X6_firstOfRow (m - 1))) (cut := [(14, [4])]) (by decide) (tk_X6_firstOfRow d ms_X3_canDo ms_X6_act ms_X6_law ms_X6_takeBack (rv_X6_firstOfRow (m - 1)) hrec) ?_
  intro kd as M K h
  unfold sp_X6_firstOfRow at h
  split at h
  · rename_i t q n
    exact ⟨Nat.le_of_ble_eq_true rfl, fun X hX => mt_X6_firstOfRow hX t q n M h⟩
  · exact h.elim
theorem msa_X6_firstOfRow : zMS (5 + 5) yX6_firstOfRow cX6_firstOfRow 5 (some .int) spa_X6_firstOfRow := by
  intro d hd
  obtain ⟨d', rfl⟩ : ∃ d', d = d' + 5 + 2 := ⟨d - (5 + 2), by omega⟩
  have h1 : ∀ e, zMet (e + 5 + 1) yX6_firstOfRow cX6_firstOfRow 5 (some .int) (sp_X6_firstOfRow 1) := fun e => msF 1 e (msF0 0 _ (by omega))
  have h2 : zMet (d' + 1 + 5 + 1) yX6_firstOfRow cX6_firstOfRow 5 (some .int) (sp_X6_firstOfRow 2) := msF 2 (d' + 1) (by have := h1 d'; rw [show d' + 1 + 5 = d' + 5 + 1 by omega]; exact this)
  have h1' := h1 (d' + 1)
  rw [show d' + 1 + 5 + 1 = d' + 5 + 2 by omega] at h1' h2
  intro l D cy ad bl as M K sz h
  unfold spa_X6_firstOfRow at h
  split at h
  · rename_i t q n
    obtain ⟨g1, g2, a, g, y, g3, g4, g5, g6⟩ := h
    rcases g4 with g4 | g4
    · exact h1' l D cy ad bl _ M K sz ⟨g1, g2, a, g, y, g3, g4, Or.inl rfl, g5, fun v hv => g6 v (by rw [g4]; exact hv)⟩
    · exact h2 l D cy ad bl _ M K sz ⟨g1, g2, a, g, y, g3, g4, Or.inr rfl, g5, fun v hv => g6 v (by rw [g4]; exact hv)⟩
  · exact h.elim
/-! the best stroke -/
theorem bst_b1 {p : Nat → Bool} {f : Nat → Int} (hf : ∀ w, p w = true → 0 ≤ f w ∧ f w ≤ 2) : ∀ n, -1 ≤ (bst 1 p f n).1 ∧ (bst 1 p f n).1 ≤ 2 ∧ ∀ w, w < n → p w = true → f w ≤ (bst 1 p f n).1
  | 0 => ⟨by simp [bst], by simp [bst], fun w h => by omega⟩
  | n + 1 => by
    obtain ⟨h1, h2, h3⟩ := bst_b1 hf n
    unfold bst
    cases hp : p n with
    | false => exact ⟨by simpa using h1, by simpa using h2, fun w hw hpw => by
        by_cases e : w = n
        · subst e; rw [hp] at hpw; cases hpw
        · simpa using h3 w (by omega) hpw⟩
    | true =>
      have hb := hf n hp
      by_cases hlt : (bst 1 p f n).1 < f n
      · simp [hlt]
        refine ⟨by omega, by omega, fun w hw hpw => ?_⟩
        by_cases e : w = n
        · subst e; exact Int.le_refl _
        · have := h3 w (by omega) hpw; omega
      · simp [hlt]
        refine ⟨h1, h2, fun w hw hpw => ?_⟩
        by_cases e : w = n
        · subst e; omega
        · exact h3 w (by omega) hpw
theorem bst_b0 {e : Int} (he : ¬ e = 1) {p : Nat → Bool} {f : Nat → Int} (hf : ∀ w, p w = true → 0 ≤ f w ∧ f w ≤ 2) : ∀ n, 0 ≤ (bst e p f n).1 ∧ (bst e p f n).1 ≤ 3 ∧ ∀ w, w < n → p w = true → (bst e p f n).1 ≤ f w
  | 0 => ⟨by simp [bst, he], by simp [bst, he], fun w h => by omega⟩
  | n + 1 => by
    obtain ⟨h1, h2, h3⟩ := bst_b0 he hf n
    unfold bst
    cases hp : p n with
    | false => exact ⟨by simpa using h1, by simpa using h2, fun w hw hpw => by
        by_cases e : w = n
        · subst e; rw [hp] at hpw; cases hpw
        · simpa using h3 w (by omega) hpw⟩
    | true =>
      have hb := hf n hp
      by_cases hlt : f n < (bst e p f n).1
      · simp [hlt, he]
        refine ⟨by omega, by omega, fun w hw hpw => ?_⟩
        by_cases e : w = n
        · subst e; exact Int.le_refl _
        · have := h3 w (by omega) hpw; omega
      · simp [hlt, he]
        refine ⟨h1, h2, fun w hw hpw => ?_⟩
        by_cases e : w = n
        · subst e; omega
        · exact h3 w (by omega) hpw
theorem bst_r {e : Int} {p : Nat → Bool} {f : Nat → Int} (hf : ∀ w, p w = true → 0 ≤ f w ∧ f w ≤ 2) (h20 : p 20 = true) : 0 ≤ (bst e p f 21).1 ∧ (bst e p f 21).1 ≤ 2 := by
  have hb := hf 20 h20
  by_cases he : e = 1
  · subst he
    obtain ⟨h1, h2, h3⟩ := bst_b1 hf 21
    have := h3 20 (by omega) h20
    omega
  · obtain ⟨h1, h2, h3⟩ := bst_b0 he hf 21
    have := h3 20 (by omega) h20
    omega
theorem bst_stop {e : Int} {p : Nat → Bool} {f : Nat → Int} (hf : ∀ w, p w = true → 0 ≤ f w ∧ f w ≤ 2) {n : Nat} (hg : (bst e p f n).1 = if e = 1 then 2 else 0) : ∀ k, bst e p f (n + k) = bst e p f n
  | 0 => rfl
  | k + 1 => by
    have ih := bst_stop hf hg k
    show bst e p f (n + k + 1) = _
    conv => lhs; unfold bst
    rw [ih]
    cases hp : p (n + k) with
    | false => simp
    | true =>
      have hb := hf _ hp
      by_cases he : e = 1
      · subst he
        simp at hg
        simp
        intro h
        omega
      · rw [if_neg he] at hg
        simp [he]
        intro h
        omega
theorem wlaw_b (x : Int) : 0 ≤ wlaw x ∧ wlaw x ≤ 2 := by unfold wlaw; split <;> (try split) <;> omega
theorem wv_b (g y : Int) : ∀ (n : Nat) (e : Int) (a : Sk), 0 ≤ wv g y n e a ∧ wv g y n e a ≤ 2
  | 0, _, a => wlaw_b _
  | n + 1, e, a => bst_r (fun w _ => wv_b g y n (1 - e) _) rfl
set_option maxRecDepth 20000 in
theorem mt_X6_worth {m : Nat} {kd : Nat → Nat} {K : zK} {X : zX} (hX : ∀ (n pc : Nat) (ls : zLS) (st : List zV) (M : zM), zrun (tb_X6_worth kd K (sp_X6_worth (m - 1))) [(45, [7])] n X pc ls st M → X pc ls st M) (t : Nat) (n : Int32) (e : Int32) (M : zM) (h : (kd t = 6) ∧ (kd (t + 1) = 3) ∧ ∃ a : Sk, ∃ g : Int, ∃ y : Int, (RpR M t a g y) ∧ (0 < m ∧ m ≤ 4) ∧ (n.toInt = Int.ofNat m - 1) ∧ (e.toInt = 0 ∨ e.toInt = 1) ∧ ∀ v : Int32, (v.toInt = wv g y (m - 1) e.toInt a) → ∀ M' : zM, (trF M t M') → (RpR M' t (a) g y) → (1 < m → (M'.1 t 0 4).toInt = wc g y (m - 2) e.toInt a) → K (some (zI v)) M') : X 0 [some (zR t 0), some (zI (n)), some (zI (e)), none, none, none, none, none] [] M := by
  obtain ⟨hk, hk1, a, g, y, hR, hm, hn, he, hK⟩ := h
  have hn' : n.toInt = (m : Int) - 1 := hn
  refine vc_X6_worth_0 hX hk1 hk ⟨fun q => ⟨a, g, y, hR, fun v1 hv1 => ?_⟩, fun q => ⟨fun _ => ?_, fun q1 => ?_⟩⟩
  · simp only [Int32.lt_iff_toInt_lt, Int32.le_iff_toInt_le, ← Int32.toInt_inj, Int32.toInt_add, Int32.toInt_sub, Int32.toInt_mul, Int32.toInt_neg, Int.bmod, Int32.reduceToInt] at q
    have hm1 : m = 1 := by omega
    subst hm1
    exact hK _ hv1 M trF.rf hR (fun h => by omega)
  · simp only [Int32.lt_iff_toInt_lt, Int32.le_iff_toInt_le, ← Int32.toInt_inj, Int32.toInt_add, Int32.toInt_sub, Int32.toInt_mul, Int32.toInt_neg, Int.bmod, Int32.reduceToInt] at q
    obtain ⟨r, rfl⟩ : ∃ r, m = r + 2 := ⟨m - 2, by omega⟩
    have hfb : ∀ w : Nat, tr_may a w = true → 0 ≤ wv g y r (1 - e.toInt) (tr_do a w g e.toInt) ∧ wv g y r (1 - e.toInt) (tr_do a w g e.toInt) ≤ 2 := fun w _ => wv_b _ _ _ _ _
    have key : ∀ q b : Int32, (q.toInt = if e.toInt = 1 then 2 else 0) → (b.toInt = if e.toInt = 1 then -1 else 3) → X 45 [some (zR t 0), some (zI n), some (zI e), some (zI q), some (zI b), some (zI 20), some (zI 0), none] [] M := by
      intro q b hq hb
      refine up (N := 21) (Q := fun k => ∀ (b f w : Int32) (N : zM), w.toInt = k → trF M t N → RpR N t a g y → bst e.toInt (fun w => tr_may a w) (fun w => wv g y r (1 - e.toInt) (tr_do a w g e.toInt)) k = (b.toInt, f.toInt) → X 45 [some (zR t 0), some (zI n), some (zI e), some (zI q), some (zI b), some (zI f), some (zI w), none] [] N) (fun b f w N hw tN rN hb => ?_) (fun k hk21 ih b f w N hw tN rN hb => ?_) 0 (by omega) b 20 0 M rfl trF.rf hR (by simp [bst, hb])
      · refine vc_X6_worth_45 hX hk hk1 ⟨fun _ M1 e1 => ?_, fun q1 => ?_⟩
        · rw [zmw_bs] at e1
          refine hK b ?_ M1 (tN.tr (by rw [e1]; exact trF.bs)) ?_ (fun _ => ?_)
          · show _ = (bst e.toInt _ _ 21).1
            rw [hb]
          · obtain ⟨r1, r2, r3, r4, r5, r6⟩ := rN
            exact ⟨by rw [e1, zbs_ne (by omega)]; exact r1, r2, r3, by rw [e1, zbs_at, zrw_at]; simp [upd]; exact r4, by rw [e1, zbs_at, zrw_at]; simp [upd]; exact r5, fun c hc => by rw [e1, zbs_at, zrw_ne (by omega)]; exact r6 c hc⟩
          · rw [e1, zbs_at, zrw_at]
            simp [upd]
            show _ = (bst e.toInt _ _ 21).2
            rw [hb]
        · simp only [Int32.lt_iff_toInt_lt, Int32.le_iff_toInt_le, ← Int32.toInt_inj, Int32.toInt_add, Int32.toInt_sub, Int32.toInt_mul, Int32.toInt_neg, Int.bmod, Int32.reduceToInt] at q1; omega
      · refine vc_X6_worth_45 hX hk hk1 ⟨fun q1 => ?_, fun _ => ⟨fun hbq M1 e1 => ?_, fun hbq => ⟨a, g, y, rN, by omega, fun v3 hv3 => ⟨fun h3 => ?_, fun h3 => ih b f (w + 1) N (z_inc hw (by omega)) tN rN ?_⟩⟩⟩⟩
        · simp only [Int32.lt_iff_toInt_lt, Int32.le_iff_toInt_le, ← Int32.toInt_inj, Int32.toInt_add, Int32.toInt_sub, Int32.toInt_mul, Int32.toInt_neg, Int.bmod, Int32.reduceToInt] at q1; omega
        · have hst := bst_stop (e := e.toInt) (p := fun w => tr_may a w) hfb (n := k) (by rw [hb]; dsimp only; rw [hbq]; exact hq) (21 - k)
          rw [show k + (21 - k) = 21 by omega, hb] at hst
          rw [zmw_bs] at e1
          refine hK b ?_ M1 (tN.tr (by rw [e1]; exact trF.bs)) ?_ (fun _ => ?_)
          · show _ = (bst e.toInt _ _ 21).1
            rw [hst]
          · obtain ⟨r1, r2, r3, r4, r5, r6⟩ := rN
            exact ⟨by rw [e1, zbs_ne (by omega)]; exact r1, r2, r3, by rw [e1, zbs_at, zrw_at]; simp [upd]; exact r4, by rw [e1, zbs_at, zrw_at]; simp [upd]; exact r5, fun c hc => by rw [e1, zbs_at, zrw_ne (by omega)]; exact r6 c hc⟩
          · rw [e1, zbs_at, zrw_at]
            simp [upd]
            show _ = (bst e.toInt _ _ 21).2
            rw [hst]
        · rw [hv3, zp_n] at h3
          have h1e : ((1 : Int32) - e).toInt = 1 - e.toInt := by simp only [Int32.lt_iff_toInt_lt, Int32.le_iff_toInt_le, ← Int32.toInt_inj, Int32.toInt_add, Int32.toInt_sub, Int32.toInt_mul, Int32.toInt_neg, Int.bmod, Int32.reduceToInt]; omega
          refine ⟨a, g, y, rN, by omega, h3, he, fun M4 t4 r4 => ⟨_, g, y, r4, by omega, ?_, by omega, fun v5 hv5 M5 t5 r5 _ => ⟨_, g, y, r5, a, rN.1.1, by omega, tr_do_aft h3, fun M6 t6 r6 => ?_⟩⟩⟩
          · show _ = ((r + 2 - 1 : Nat) : Int) - 1
            simp only [Int32.lt_iff_toInt_lt, Int32.le_iff_toInt_le, ← Int32.toInt_inj, Int32.toInt_add, Int32.toInt_sub, Int32.toInt_mul, Int32.toInt_neg, Int.bmod, Int32.reduceToInt]
            omega
          · have hv5' : v5.toInt = wv g y r (1 - e.toInt) (tr_do a (k : Int) g e.toInt) := by rw [hv5, h1e, hw]; rfl
            have hpk : tr_may a (k : Int) = true := by rw [← hw]; exact h3
            have t9 : trF M t M6 := ((tN.tr t4).tr t5).tr t6
            have stay : (if e.toInt = 1 then v5.toInt ≤ b.toInt else b.toInt ≤ v5.toInt) → bst e.toInt (fun w => tr_may a w) (fun w => wv g y r (1 - e.toInt) (tr_do a w g e.toInt)) (k + 1) = (b.toInt, f.toInt) := fun hle => by
              unfold bst
              rw [hb, hpk]
              dsimp only
              rw [← hv5']
              split at hle
              · rename_i h1
                rw [if_pos h1]
                simp
                intro h
                omega
              · rename_i h1
                rw [if_neg h1]
                simp
                intro h
                omega
            have take : ¬ (if e.toInt = 1 then v5.toInt ≤ b.toInt else b.toInt ≤ v5.toInt) → bst e.toInt (fun w => tr_may a w) (fun w => wv g y r (1 - e.toInt) (tr_do a w g e.toInt)) (k + 1) = (v5.toInt, w.toInt) := fun hle => by
              unfold bst
              rw [hb, hpk]
              dsimp only
              rw [← hv5', hw]
              split at hle
              · rename_i h1
                rw [if_pos h1]
                simp
                intro h
                omega
              · rename_i h1
                rw [if_neg h1]
                simp
                intro h
                omega
            refine ⟨fun e1 => ⟨fun h5 => ih b f (w + 1) M6 (z_inc hw (by omega)) t9 r6 (stay ?_), fun h5 => ih v5 w (w + 1) M6 (z_inc hw (by omega)) t9 r6 (take ?_)⟩, fun e1 => ⟨fun h5 => ih b f (w + 1) M6 (z_inc hw (by omega)) t9 r6 (stay ?_), fun h5 => ih v5 w (w + 1) M6 (z_inc hw (by omega)) t9 r6 (take ?_)⟩⟩
            all_goals simp only [Int32.lt_iff_toInt_lt, Int32.le_iff_toInt_le, ← Int32.toInt_inj, Int32.toInt_add, Int32.toInt_sub, Int32.toInt_mul, Int32.toInt_neg, Int.bmod, Int32.reduceToInt] at e1 h5
            · rw [if_neg e1]; exact h5
            · rw [if_neg e1]; exact h5
            · rw [if_pos e1]; exact h5
            · rw [if_pos e1]; exact h5
        · rw [hv3, zp_0, hw] at h3
          unfold bst
          have h3' : tr_may a (k : Int) = false := by simpa using h3
          rw [h3']
          simpa using hb
    refine ⟨fun e1 => ⟨fun _ => key 0 3 ?_ ?_, fun e2 => absurd e2 e1⟩, fun e1 => ⟨fun e2 => absurd e1 e2, fun _ => key 2 (-1) ?_ ?_⟩⟩
    all_goals simp only [Int32.lt_iff_toInt_lt, Int32.le_iff_toInt_le, ← Int32.toInt_inj, Int32.toInt_add, Int32.toInt_sub, Int32.toInt_mul, Int32.toInt_neg, Int.bmod, Int32.reduceToInt] at e1
    · rw [if_neg e1]; rfl
    · rw [if_neg e1]; rfl
    · rw [if_pos e1]; rfl
    · rw [if_pos e1]; rfl
  · simp only [Int32.lt_iff_toInt_lt, Int32.le_iff_toInt_le, ← Int32.toInt_inj, Int32.toInt_add, Int32.toInt_sub, Int32.toInt_mul, Int32.toInt_neg, Int.bmod, Int32.reduceToInt] at q1; omega
theorem msW : ∀ (m : Nat), m ≤ 4 → ∀ d, zMet (d + 5 + m) yX6_worth cX6_worth 8 (some .int) (sp_X6_worth m)
  | 0, _, d => by
    intro l D cy ad bl as M K sz h
    unfold sp_X6_worth at h
    split at h
    · obtain ⟨-, -, -, -, -, -, h9, -⟩ := h
      omega
    · exact h.elim
  | m + 1, hm, d => by
    have hrec : zMet (d + m + 5) yX6_worth cX6_worth 8 (some .int) (sp_X6_worth (m + 1 - 1)) := by
      have := msW m (by omega) d
      rw [show d + m + 5 = d + 5 + m by omega]
      exact this
    rw [show d + 5 + (m + 1) = d + m + 5 + 1 by omega]
    refine zmethod (tab := fun kd K => tb_X6_worth kd K (sp_X6_worth (m + 1 - 1))) (cut := [(45, [7])]) (by decide) (tk_X6_worth (d + m) ms_X6_worthOfLaw ms_X6_canDo ms_X6_act ms_X6_takeBack (rv_X6_worth (m + 1 - 1)) hrec) ?_
    intro kd as M K h
    unfold sp_X6_worth at h
    split at h
    · rename_i t n e
      exact ⟨Nat.le_of_ble_eq_true rfl, fun X hX => mt_X6_worth hX t n e M h⟩
    · exact h.elim
theorem msa_X6_worth : zMS (5 + 5) yX6_worth cX6_worth 8 (some .int) spa_X6_worth := by
  intro d hd
  obtain ⟨d', rfl⟩ : ∃ d', d = d' + 5 + 5 := ⟨d - (5 + 5), by omega⟩
  intro l D cy ad bl as M K sz h
  unfold spa_X6_worth at h
  split at h
  · rename_i t n e
    obtain ⟨g1, g2, a, g, y, g3, g4, g5, g6⟩ := h
    obtain ⟨k, hk⟩ : ∃ k : Nat, n.toInt = k := ⟨n.toInt.toNat, by omega⟩
    have := msW (k + 1) (by omega) (d' + 4 - k)
    rw [show d' + 4 - k + 5 + (k + 1) = d' + 5 + 5 by omega] at this
    refine this l D cy ad bl _ M K sz ⟨g1, g2, a, g, y, g3, by omega, ?_, g5, fun v hv M' h1 h2 h3 => g6 v ?_ M' h1 h2 ?_⟩
    · show _ = ((k + 1 : Nat) : Int) - 1
      omega
    · rw [hk, Int.toNat_natCast]; exact hv
    · intro h0
      rw [hk, Int.toNat_natCast]
      exact h3 (by omega)
  · exact h.elim
