/-- downward: from the end of a counted loop to any place in it -/
theorem up {N : Nat} {Q : Nat → Prop} (hN : Q N) (hs : ∀ k, k < N → Q (k + 1) → Q k) : ∀ k, k ≤ N → Q k := by
  have h : ∀ n k, k + n = N → Q k := by
    intro n
    induction n with
    | zero => intro k hk; rw [show k = N by omega]; exact hN
    | succ n ih => intro k hk; exact hs k (by omega) (ih (k + 1) (by omega))
  exact fun k hk => h (N - k) k (by omega)
theorem z_inc {x : Int32} {k : Nat} (h : x.toInt = k) (hk : k < 1000000) : (x + 1).toInt = ((k + 1 : Nat) : Int) := by simp only [Int32.lt_iff_toInt_lt, Int32.le_iff_toInt_le, ← Int32.toInt_inj, Int32.toInt_add, Int32.toInt_sub, Int32.toInt_mul, Int32.toInt_neg, Int.bmod, Int32.reduceToInt]; omega
theorem z_lit {x : Int32} {z : Int} (h : x.toInt = z) (h0 : -2147483648 ≤ z) (h1 : z < 2147483648) : x = Int32.ofInt z := Int32.toInt_inj.mp (by rw [h, z_of h0 h1])
theorem z_or_lw {x y : Int32} {a b c d : Int} (hx : x.toInt = lw2 a b) (hy : y.toInt = lw2 c d) (ha : 0 ≤ a) (hb : 0 ≤ b) (hc : 0 ≤ c) (hd : 0 ≤ d) : (x ||| y).toInt = lw2 (a + c) (b + d) := by
  have e1 := z_lit hx (by have := lw2_b a b; omega) (by have := lw2_b a b; omega)
  have e2 := z_lit hy (by have := lw2_b c d; omega) (by have := lw2_b c d; omega)
  rw [e1, e2]
  unfold lw2
  by_cases h1 : 0 < a <;> by_cases h2 : 0 < b <;> by_cases h3 : 0 < c <;> by_cases h4 : 0 < d <;>
    simp only [h1, h2, h3, h4, if_true, if_false, show (0 < a + c) = (0 < a ∨ 0 < c) from propext (by omega), show (0 < b + d) = (0 < b ∨ 0 < d) from propext (by omega), or_true, true_or, or_false, false_or] <;> decide
theorem z_or_bit : ∀ k, k < 6 → ∀ w, w < 64 → w < 2 ^ k → (nI w ||| ((1 : Int32) <<< (nI k &&& 31))).toInt = ((w + 2 ^ k : Nat) : Int) := by decide +kernel
theorem z_nI {x : Int32} {k : Nat} (h : x.toInt = k) : x = nI k := by
  have := z_rng x
  exact Int32.toInt_inj.mp (by rw [h, nI_toInt (by omega)])
theorem sk_q_none {a : Sk} {c i th le y : Int} (h : sk_at a c i = none) : sk_q a c i th le y = false := by unfold sk_q; rw [h]
theorem sk_q_some {a : Sk} {c i th le y : Int} {l : Ly} (h : sk_at a c i = some l) : sk_q a c i th le y = (decide (l.2.1 = th) && decide (l.2.2.1 = le) && bnd l.1 l (sk_at a c (i + 1)) y) := by unfold sk_q; rw [h]
theorem sk_bd_some {a : Sk} {c i y : Int} {l : Ly} (h : sk_at a c i = some l) : sk_bd a c i y = bnd l.1 l (sk_at a c (i + 1)) y := by unfold sk_bd; rw [h]
theorem sk_bd_none {a : Sk} {c i y : Int} (h : sk_at a c i = none) : sk_bd a c i y = false := by unfold sk_bd; rw [h]
/-- what slot() tells -/
theorem sk_sl {S : zB} {a : Sk} (ha : RpS S a) {c i q : Int32} (hq : q.toInt = if (sk_at a c.toInt i.toInt).isSome then 4 * c.toInt + i.toInt else -1) : (q = -1 ∧ sk_at a c.toInt i.toInt = none) ∨ (¬ q = -1 ∧ ∃ l, sk_at a c.toInt i.toInt = some l ∧ lyS S q.toNatClampNeg l ∧ okLy a.2 l ∧ (0 ≤ q.toInt ∧ q.toInt < 24) ∧ q.toInt = 4 * (c.toInt.toNat : Int) + i.toInt.toNat ∧ c.toInt.toNat < 6 ∧ (a.1 c.toInt.toNat)[i.toInt.toNat]? = some l) := by
  cases h : sk_at a c.toInt i.toInt with
  | none => left; rw [h] at hq; exact ⟨Int32.toInt_inj.mp hq, rfl⟩
  | some l =>
    right
    obtain ⟨g1, g2, g3, g4, g5⟩ := sk_at_some h
    have hb := sk_len_b ha.1 g1 g2
    rw [h] at hq
    simp at hq
    refine ⟨fun e => ?_, l, rfl, ha.ly h (by omega), sk_ok_at ha.1 h, by omega, by omega, by omega, g5⟩
    rw [e] at hq
    simp at hq
    omega
set_option maxRecDepth 20000 in
theorem mt_X3_lastEnd {kd : Nat → Nat} {K : zK} {X : zX} (hX : ∀ (n pc : Nat) (ls : zLS) (st : List zV) (M : zM), zrun (tb_X3_lastEnd kd K) [] n X pc ls st M → X pc ls st M) (t : Nat) (c : Int32) (i : Int32) (M : zM) (h : (kd t = 3) ∧ ∃ a : Sk, (RpS (M.1 t) a) ∧ ∃ l : Ly, (sk_at a c.toInt i.toInt = some l) ∧ ∀ v : Int32, (sk_isE a c.toInt i.toInt v.toInt) → K (some (zI v)) M) : X 0 [some (zR t 0), some (zI (c)), some (zI (i)), none, none] [] M := by
  obtain ⟨hk, a, ha, l, hl, hK⟩ := h
  refine vc_X3_lastEnd_0 hX hk ⟨a, ha, fun v1 hv1 => ?_⟩
  rcases sk_sl ha hv1 with ⟨e1, e2⟩ | ⟨e1, l', e2, ⟨q1, -, -, -, -⟩, ok, hb, hq, hc6, hget⟩
  · rw [hl] at e2; cases e2
  · rw [hl] at e2; cases e2
    have z2 : zin (kd t) 2 0 v1 := zin_of (n := 24) (by rw [hk]; rfl) hb.1 hb.2
    obtain ⟨g1, g2, g3, g4, -⟩ := sk_at_some hl
    have hlen := sk_len_b ha.1 g1 g2
    have ei : (i + (1 : Int32)).toInt = i.toInt + 1 := by simp only [Int32.lt_iff_toInt_lt, Int32.le_iff_toInt_le, ← Int32.toInt_inj, Int32.toInt_add, Int32.toInt_sub, Int32.toInt_mul, Int32.toInt_neg, Int.bmod, Int32.reduceToInt]; omega
    have eo : sk_at a c.toInt (i.toInt + 1) = (a.1 c.toInt.toNat)[i.toInt.toNat + 1]? := by rw [sk_at_nat (by omega), show (i.toInt + 1).toNat = i.toInt.toNat + 1 by omega]
    have hyr := ha.1.1
    have hyr2 := ha.2.2
    have hop : opn l.1 l = 1000000 ∨ opn l.1 l ≤ a.2 := by
      obtain ⟨-, -, -, w1, w2⟩ := ok
      unfold opn
      split <;> (try split) <;> omega
    have h0p : 0 ≤ opn l.1 l := by
      obtain ⟨-, -, -, w1, w2⟩ := ok
      unfold opn
      split <;> (try split) <;> omega
    refine ⟨fun _ => ⟨a, ha, by decide, fun v2 hv2 => ⟨fun h2 => ⟨z2, a, ha, c.toInt.toNat, i.toInt.toNat, l, hc6, hget, hq, fun v3 hv3 => ⟨fun h3 => ⟨z2, a, ha, fun v4 hv4 => ⟨a, ha, c.toInt.toNat, i.toInt.toNat, l, hc6, hget, hq, ?_, fun v5 hv5 => hK _ ?_⟩⟩, fun h3 => hK _ ?_⟩⟩, fun h2 => hK _ ?_⟩⟩, fun q => absurd q e1⟩
    · rw [hv4, ei, eo]
      split <;> omega
    · rw [q1] at hv3 hv5
      rw [hv2, zp_0, sk_bd_some hl] at h2
      have h2' : ¬ (opn l.1 l ≤ 999 ∧ 999 < sht l.1 l (sk_at a c.toInt (i.toInt + 1))) := by simpa [bnd] using h2
      rw [← eo] at hv5
      rw [← Int32.toInt_inj, hv3] at h3
      have h3' : ¬ opn l.1 l = 1000000 := h3
      have ev : (if (M.1 t 0 6) < v5 then v5 else (M.1 t 0 6)).toInt = if a.2 < sht l.1 l (sk_at a c.toInt (i.toInt + 1)) then sht l.1 l (sk_at a c.toInt (i.toInt + 1)) else a.2 := by
        rw [← hv5, ← hyr2]
        simp only [Int32.lt_iff_toInt_lt]
        split <;> rfl
      rw [ev]
      right
      refine ⟨by split <;> omega, by split <;> omega, fun y y1 y2 => ?_, ?_⟩
      · rw [sk_bd_some hl]
        simp [bnd]
        split at y1 <;> omega
      · by_cases hs : a.2 < sht l.1 l (sk_at a c.toInt (i.toInt + 1))
        · right
          rw [if_pos hs, sk_bd_some hl]
          simp [bnd]
          omega
        · left
          rw [if_neg hs]
    · rw [q1] at hv3
      rw [← Int32.toInt_inj, hv3] at h3
      have h3' : opn l.1 l = 1000000 := h3
      rw [hyr2]
      right
      refine ⟨Int.le_refl _, by omega, fun y y1 y2 => ?_, Or.inl rfl⟩
      rw [sk_bd_some hl]
      simp [bnd]
      omega
    · rw [hv2, zp_n] at h2
      exact Or.inl ⟨rfl, h2⟩
theorem ms_X3_lastEnd : zMS 5 yX3_lastEnd cX3_lastEnd 5 (some .int) sp_X3_lastEnd := by
  intro d hd
  obtain ⟨d', rfl⟩ : ∃ d', d = d' + 5 := ⟨d - 5, by omega⟩
  refine zmethod (tab := tb_X3_lastEnd) (cut := []) (by decide) (tk_X3_lastEnd d' ms_X3_slot ms_X3_bound ms_X3_opens ms_X3_shuts) ?_
  intro kd as M K h
  unfold sp_X3_lastEnd at h
  split at h
  · rename_i t c i
    exact ⟨Nat.le_of_ble_eq_true rfl, fun X hX => mt_X3_lastEnd hX t c i M h⟩
  · exact h.elim

set_option maxRecDepth 20000 in
theorem mt_X3_lawOfCell {kd : Nat → Nat} {K : zK} {X : zX} (hX : ∀ (n pc : Nat) (ls : zLS) (st : List zV) (M : zM), zrun (tb_X3_lawOfCell kd K) [(6, [6])] n X pc ls st M → X pc ls st M) (t : Nat) (c : Int32) (g : Int32) (y : Int32) (M : zM) (h : (kd t = 3) ∧ ∃ a : Sk, (RpS (M.1 t) a) ∧ (0 ≤ c.toInt ∧ c.toInt < 6) ∧ (0 ≤ y.toInt ∧ y.toInt < 1000000) ∧ ∀ v : Int32, (v.toInt = sk_lawC a c.toInt g.toInt y.toInt) → K (some (zI v)) M) : X 0 [some (zR t 0), some (zI (c)), some (zI (g)), some (zI (y)), none, none, none] [] M := by
  obtain ⟨hk, a, ha, hc, hy, hK⟩ := h
  have nn : ∀ e : Int, ∀ k : Nat, 0 ≤ zsm (fun j => b2i (sk_q a c.toInt j g.toInt e y.toInt)) k := fun e k => by
    have := zsm_b (f := fun j => b2i (sk_q a c.toInt j g.toInt e y.toInt)) (fun k => b2i_b _) k
    omega
  refine vc_X3_lawOfCell_0 hX (up (N := 4) (Q := fun k => ∀ w i : Int32, i.toInt = k → w.toInt = lw2 (zsm (fun j => b2i (sk_q a c.toInt j g.toInt 1 y.toInt)) k) (zsm (fun j => b2i (sk_q a c.toInt j g.toInt 0 y.toInt)) k) → X 6 [some (zR t 0), some (zI c), some (zI g), some (zI y), some (zI w), some (zI i), none] [] M) (fun w i hi hw => ?_) (fun k hk4 ih w i hi hw => ?_) 0 (by omega) 0 0 rfl rfl)
  · refine vc_X3_lawOfCell_6 hX hk ⟨fun _ => hK _ hw, fun q => ?_⟩
    simp only [Int32.lt_iff_toInt_lt, Int32.le_iff_toInt_le, ← Int32.toInt_inj, Int32.toInt_add, Int32.toInt_sub, Int32.toInt_mul, Int32.toInt_neg, Int.bmod, Int32.reduceToInt] at q; omega
  · have next : ∀ w' : Int32, w'.toInt = lw2 (zsm (fun j => b2i (sk_q a c.toInt j g.toInt 1 y.toInt)) k + b2i (sk_q a c.toInt i.toInt g.toInt 1 y.toInt)) (zsm (fun j => b2i (sk_q a c.toInt j g.toInt 0 y.toInt)) k + b2i (sk_q a c.toInt i.toInt g.toInt 0 y.toInt)) → X 6 [some (zR t 0), some (zI c), some (zI g), some (zI y), some (zI w'), some (zI (i + 1)), none] [] M := fun w' hw' => ih w' (i + 1) (z_inc hi (by omega)) (by rw [zsm_s, zsm_s, ← hi]; exact hw')
    refine vc_X3_lawOfCell_6 hX hk ⟨fun q => ?_, fun _ => ⟨a, ha, fun v1 hv1 => ?_⟩⟩
    · simp only [Int32.lt_iff_toInt_lt, Int32.le_iff_toInt_le, ← Int32.toInt_inj, Int32.toInt_add, Int32.toInt_sub, Int32.toInt_mul, Int32.toInt_neg, Int.bmod, Int32.reduceToInt] at q; omega
    · rcases sk_sl ha hv1 with ⟨e1, e2⟩ | ⟨e1, l, e2, ⟨q1, q2, q3, -, -⟩, ok, hb, -⟩
      · refine ⟨fun _ => next w ?_, fun q => absurd e1 q⟩
        rw [sk_q_none e2, sk_q_none e2, hw]; simp [b2i]
      · have zz : ∀ o, 2 ≤ o → o ≤ 6 → zin (kd t) o 0 v1 := fun o h2 h6 => zin_of (n := 24) (by rw [hk]; rcases (show o = 2 ∨ o = 3 ∨ o = 4 ∨ o = 5 ∨ o = 6 by omega) with rfl | rfl | rfl | rfl | rfl <;> rfl) hb.1 hb.2
        refine ⟨fun q => absurd q e1, fun _ => ⟨zz 3 (by omega) (by omega), fun h3 => next w ?_, fun h3 => ⟨zz 2 (by omega) (by omega), a, ha, l, e2, hy, fun v2 hv2 => ⟨fun h4 => next w ?_, fun h4 => ⟨zz 4 (by omega) (by omega), fun h5 => next _ ?_, fun h5 => next _ ?_⟩⟩⟩⟩⟩
        · rw [← Int32.toInt_inj, q2] at h3
          rw [sk_q_some e2, sk_q_some e2, hw]; simp [b2i, h3]
        · rw [hv2, zp_0, q1] at h4
          rw [sk_q_some e2, sk_q_some e2, hw]; simp [b2i, h4]
        · rw [hv2, zp_n, q1] at h4
          rw [← Int32.toInt_inj, q2] at h3
          rw [← Int32.toInt_inj, q3] at h5
          have h5' : l.2.2.1 = 0 := by
            rcases ok.2.2.1 with h | h
            · exact h
            · exact absurd h h5
          refine z_or_lw hw (c := b2i (sk_q a c.toInt i.toInt g.toInt 1 y.toInt)) (d := b2i (sk_q a c.toInt i.toInt g.toInt 0 y.toInt)) ?_ (nn 1 k) (nn 0 k) (b2i_b _).1 (b2i_b _).1
          rw [sk_q_some e2, sk_q_some e2]; simp [b2i, h3, h4, h5']; decide
        · rw [hv2, zp_n, q1] at h4
          rw [← Int32.toInt_inj, q2] at h3
          rw [← Int32.toInt_inj, q3] at h5
          have h5' : l.2.2.1 = 1 := h5
          refine z_or_lw hw (c := b2i (sk_q a c.toInt i.toInt g.toInt 1 y.toInt)) (d := b2i (sk_q a c.toInt i.toInt g.toInt 0 y.toInt)) ?_ (nn 1 k) (nn 0 k) (b2i_b _).1 (b2i_b _).1
          rw [sk_q_some e2, sk_q_some e2]; simp [b2i, h3, h4, h5']; decide
theorem ms_X3_lawOfCell : zMS 4 yX3_lawOfCell cX3_lawOfCell 7 (some .int) sp_X3_lawOfCell := by
  intro d hd
  obtain ⟨d', rfl⟩ : ∃ d', d = d' + 4 := ⟨d - 4, by omega⟩
  refine zmethod (tab := tb_X3_lawOfCell) (cut := [(6, [6])]) (by decide) (tk_X3_lawOfCell d' ms_X3_slot ms_X3_wouldBind) ?_
  intro kd as M K h
  unfold sp_X3_lawOfCell at h
  split at h
  · rename_i t c g y
    exact ⟨Nat.le_of_ble_eq_true rfl, fun X hX => mt_X3_lawOfCell hX t c g y M h⟩
  · exact h.elim

set_option maxRecDepth 20000 in
theorem mt_X3_law {kd : Nat → Nat} {K : zK} {X : zX} (hX : ∀ (n pc : Nat) (ls : zLS) (st : List zV) (M : zM), zrun (tb_X3_law kd K) [(5, [])] n X pc ls st M → X pc ls st M) (t : Nat) (g : Int32) (y : Int32) (M : zM) (h : (kd t = 3) ∧ ∃ a : Sk, (RpS (M.1 t) a) ∧ (0 ≤ y.toInt ∧ y.toInt < 1000000) ∧ ∀ v : Int32, (v.toInt = sk_law a g.toInt y.toInt) → K (some (zI v)) M) : X 0 [some (zR t 0), some (zI (g)), some (zI (y)), none, none] [] M := by
  obtain ⟨hk, a, ha, hy, hK⟩ := h
  have nn : ∀ e : Int, ∀ k : Nat, 0 ≤ zsm (fun j => sk_n a j g.toInt e y.toInt) k := fun e k => by
    have := zsm_b (f := fun j => sk_n a j g.toInt e y.toInt) (fun k => sk_n_b _ _ _ _ _) k
    omega
  refine vc_X3_law_0 hX (up (N := 6) (Q := fun k => ∀ w c : Int32, c.toInt = k → w.toInt = lw2 (zsm (fun j => sk_n a j g.toInt 1 y.toInt) k) (zsm (fun j => sk_n a j g.toInt 0 y.toInt) k) → X 5 [some (zR t 0), some (zI g), some (zI y), some (zI w), some (zI c)] [] M) (fun w c hc hw => ?_) (fun k hk4 ih w c hc hw => ?_) 0 (by omega) 0 0 rfl rfl)
  · refine vc_X3_law_5 hX hk ⟨fun _ => hK _ hw, fun q => ?_⟩
    simp only [Int32.lt_iff_toInt_lt, Int32.le_iff_toInt_le, ← Int32.toInt_inj, Int32.toInt_add, Int32.toInt_sub, Int32.toInt_mul, Int32.toInt_neg, Int.bmod, Int32.reduceToInt] at q; omega
  · refine vc_X3_law_5 hX hk ⟨fun q => ?_, fun _ => ⟨a, ha, by omega, hy, fun v1 hv1 => ih _ _ (z_inc hc (by omega)) ?_⟩⟩
    · simp only [Int32.lt_iff_toInt_lt, Int32.le_iff_toInt_le, ← Int32.toInt_inj, Int32.toInt_add, Int32.toInt_sub, Int32.toInt_mul, Int32.toInt_neg, Int.bmod, Int32.reduceToInt] at q; omega
    · rw [zsm_s, zsm_s]
      rw [hc] at hv1
      exact z_or_lw hw hv1 (nn 1 k) (nn 0 k) (sk_n_b _ _ _ _ _).1 (sk_n_b _ _ _ _ _).1
theorem ms_X3_law : zMS 5 yX3_law cX3_law 5 (some .int) sp_X3_law := by
  intro d hd
  obtain ⟨d', rfl⟩ : ∃ d', d = d' + 5 := ⟨d - 5, by omega⟩
  refine zmethod (tab := tb_X3_law) (cut := [(5, [])]) (by decide) (tk_X3_law d' ms_X3_lawOfCell) ?_
  intro kd as M K h
  unfold sp_X3_law at h
  split at h
  · rename_i t g y
    exact ⟨Nat.le_of_ble_eq_true rfl, fun X hX => mt_X3_law hX t g y M h⟩
  · exact h.elim

set_option maxRecDepth 20000 in
theorem mt_X3_tally {kd : Nat → Nat} {K : zK} {X : zX} (hX : ∀ (n pc : Nat) (ls : zLS) (st : List zV) (M : zM), zrun (tb_X3_tally kd K) [(6, [6, 7]), (16, [7])] n X pc ls st M → X pc ls st M) (t : Nat) (g : Int32) (e : Int32) (y : Int32) (M : zM) (h : (kd t = 3) ∧ ∃ a : Sk, (RpS (M.1 t) a) ∧ (0 ≤ y.toInt ∧ y.toInt < 1000000) ∧ ∀ v : Int32, (v.toInt = sk_N a g.toInt e.toInt y.toInt) → K (some (zI v)) M) : X 0 [some (zR t 0), some (zI (g)), some (zI (e)), some (zI (y)), none, none, none, none] [] M := by
  obtain ⟨hk, a, ha, hy, hK⟩ := h
  have inner : ∀ (cn : Nat) (c : Int32), c.toInt = cn → cn < 6 → (∀ s : Int32, s.toInt = zsm (fun j => sk_n a j g.toInt e.toInt y.toInt) (cn + 1) → X 6 [some (zR t 0), some (zI g), some (zI e), some (zI y), some (zI s), some (zI (c + 1)), none, none] [] M) → ∀ s : Int32, s.toInt = zsm (fun j => sk_n a j g.toInt e.toInt y.toInt) cn → X 16 [some (zR t 0), some (zI g), some (zI e), some (zI y), some (zI s), some (zI c), some (zI 0), none] [] M := by
    intro cn c hc hcn hout s hs
    have bs := zsm_b (f := fun j => sk_n a j g.toInt e.toInt y.toInt) (fun k => sk_n_b _ _ _ _ _) cn
    refine up (N := 4) (Q := fun k => ∀ s i : Int32, i.toInt = k → s.toInt = zsm (fun j => sk_n a j g.toInt e.toInt y.toInt) cn + zsm (fun j => b2i (sk_q a c.toInt j g.toInt e.toInt y.toInt)) k → X 16 [some (zR t 0), some (zI g), some (zI e), some (zI y), some (zI s), some (zI c), some (zI i), none] [] M) (fun s i hi hs => ?_) (fun k hk4 ih s i hi hs => ?_) 0 (by omega) s 0 rfl (by rw [hs]; simp [zsm])
    · refine vc_X3_tally_16 hX hk ⟨fun _ => hout s (by rw [zsm_s, hs, ← hc]; rfl), fun q => ?_⟩
      simp only [Int32.lt_iff_toInt_lt, Int32.le_iff_toInt_le, ← Int32.toInt_inj, Int32.toInt_add, Int32.toInt_sub, Int32.toInt_mul, Int32.toInt_neg, Int.bmod, Int32.reduceToInt] at q; omega
    · have bk := zsm_b (f := fun j => b2i (sk_q a c.toInt j g.toInt e.toInt y.toInt)) (fun k => b2i_b _) k
      have next : ∀ s' : Int32, s'.toInt = s.toInt + b2i (sk_q a c.toInt i.toInt g.toInt e.toInt y.toInt) → X 16 [some (zR t 0), some (zI g), some (zI e), some (zI y), some (zI s'), some (zI c), some (zI (i + 1)), none] [] M := fun s' hs' => ih s' (i + 1) (z_inc hi (by omega)) (by rw [zsm_s, hs', hs, hi]; omega)
      refine vc_X3_tally_16 hX hk ⟨fun q => ?_, fun _ => ⟨a, ha, fun v1 hv1 => ?_⟩⟩
      · simp only [Int32.lt_iff_toInt_lt, Int32.le_iff_toInt_le, ← Int32.toInt_inj, Int32.toInt_add, Int32.toInt_sub, Int32.toInt_mul, Int32.toInt_neg, Int.bmod, Int32.reduceToInt] at q; omega
      · rcases sk_sl ha hv1 with ⟨e1, e2⟩ | ⟨e1, l, e2, ⟨q1, q2, q3, -, -⟩, ok, hb, -⟩
        · refine ⟨fun _ => next s ?_, fun q => absurd e1 q⟩
          rw [sk_q_none e2]; simp [b2i]
        · have zz : ∀ o, 2 ≤ o → o ≤ 6 → zin (kd t) o 0 v1 := fun o h2 h6 => zin_of (n := 24) (by rw [hk]; rcases (show o = 2 ∨ o = 3 ∨ o = 4 ∨ o = 5 ∨ o = 6 by omega) with rfl | rfl | rfl | rfl | rfl <;> rfl) hb.1 hb.2
          refine ⟨fun q => absurd q e1, fun _ => ⟨zz 3 (by omega) (by omega), fun h3 => next s ?_, fun h3 => ⟨zz 4 (by omega) (by omega), fun h5 => next s ?_, fun h5 => ⟨zz 2 (by omega) (by omega), a, ha, l, e2, hy, fun v2 hv2 => ⟨fun h4 => next s ?_, fun h4 => next _ ?_⟩⟩⟩⟩⟩
          · rw [← Int32.toInt_inj, q2] at h3
            rw [sk_q_some e2]; simp [b2i, h3]
          · rw [← Int32.toInt_inj, q3] at h5
            rw [sk_q_some e2]; simp [b2i, h5]
          · rw [hv2, zp_0, q1] at h4
            rw [sk_q_some e2]; simp [b2i, h4]
          · rw [hv2, zp_n, q1] at h4
            rw [← Int32.toInt_inj, q2] at h3
            rw [← Int32.toInt_inj, q3] at h5
            have e9 : b2i (sk_q a c.toInt i.toInt g.toInt e.toInt y.toInt) = 1 := by rw [sk_q_some e2]; simp [b2i, h3, h4, h5]
            rw [e9]
            simp only [Int32.lt_iff_toInt_lt, Int32.le_iff_toInt_le, ← Int32.toInt_inj, Int32.toInt_add, Int32.toInt_sub, Int32.toInt_mul, Int32.toInt_neg, Int.bmod, Int32.reduceToInt]; omega
  refine vc_X3_tally_0 hX (up (N := 6) (Q := fun k => ∀ s c : Int32, c.toInt = k → s.toInt = zsm (fun j => sk_n a j g.toInt e.toInt y.toInt) k → X 6 [some (zR t 0), some (zI g), some (zI e), some (zI y), some (zI s), some (zI c), none, none] [] M) (fun s c hc hs => ?_) (fun k hk4 ih s c hc hs => ?_) 0 (by omega) 0 0 rfl rfl)
  · refine vc_X3_tally_6 hX ⟨fun _ => hK _ hs, fun q => ?_⟩
    simp only [Int32.lt_iff_toInt_lt, Int32.le_iff_toInt_le, ← Int32.toInt_inj, Int32.toInt_add, Int32.toInt_sub, Int32.toInt_mul, Int32.toInt_neg, Int.bmod, Int32.reduceToInt] at q; omega
  · refine vc_X3_tally_6 hX ⟨fun q => ?_, fun _ => inner k c hc hk4 (fun s' hs' => ih s' (c + 1) (z_inc hc (by omega)) hs') s hs⟩
    simp only [Int32.lt_iff_toInt_lt, Int32.le_iff_toInt_le, ← Int32.toInt_inj, Int32.toInt_add, Int32.toInt_sub, Int32.toInt_mul, Int32.toInt_neg, Int.bmod, Int32.reduceToInt] at q; omega
theorem ms_X3_tally : zMS 4 yX3_tally cX3_tally 8 (some .int) sp_X3_tally := by
  intro d hd
  obtain ⟨d', rfl⟩ : ∃ d', d = d' + 4 := ⟨d - 4, by omega⟩
  refine zmethod (tab := tb_X3_tally) (cut := [(6, [6, 7]), (16, [7])]) (by decide) (tk_X3_tally d' ms_X3_slot ms_X3_wouldBind) ?_
  intro kd as M K h
  unfold sp_X3_tally at h
  split at h
  · rename_i t g e y
    exact ⟨Nat.le_of_ble_eq_true rfl, fun X hX => mt_X3_tally hX t g e y M h⟩
  · exact h.elim

set_option maxRecDepth 20000 in
theorem mt_X3_boundIn {kd : Nat → Nat} {K : zK} {X : zX} (hX : ∀ (n pc : Nat) (ls : zLS) (st : List zV) (M : zM), zrun (tb_X3_boundIn kd K) [(4, [4]), (13, [])] n X pc ls st M → X pc ls st M) (t : Nat) (y : Int32) (M : zM) (h : (kd t = 3) ∧ ∃ a : Sk, (RpS (M.1 t) a) ∧ (0 ≤ y.toInt ∧ y.toInt < 1000000) ∧ ∀ v : Int32, (v.toInt = sk_bi a y.toInt) → K (some (zI v)) M) : X 0 [some (zR t 0), some (zI (y)), none, none, none] [] M := by
  obtain ⟨hk, a, ha, hy, hK⟩ := h
  have b4 : ∀ c : Int, 0 ≤ zsm (fun i => b2i (sk_bd a c i y.toInt)) 4 ∧ zsm (fun i => b2i (sk_bd a c i y.toInt)) 4 ≤ 4 := fun c => by
    have := zsm_b (f := fun i => b2i (sk_bd a c i y.toInt)) (fun k => b2i_b _) 4
    omega
  have inner : ∀ (cn : Nat) (c : Int32), c.toInt = cn → cn < 6 → (∀ s : Int32, s.toInt = zsm (fun j => zsm (fun i => b2i (sk_bd a j i y.toInt)) 4) (cn + 1) → X 4 [some (zR t 0), some (zI y), some (zI s), some (zI (c + 1)), none] [] M) → ∀ s : Int32, s.toInt = zsm (fun j => zsm (fun i => b2i (sk_bd a j i y.toInt)) 4) cn → X 13 [some (zR t 0), some (zI y), some (zI s), some (zI c), some (zI 0)] [] M := by
    intro cn c hc hcn hout s hs
    have bs := zsm_b (f := fun j => zsm (fun i => b2i (sk_bd a j i y.toInt)) 4) (fun k => b4 _) cn
    refine up (N := 4) (Q := fun k => ∀ s i : Int32, i.toInt = k → s.toInt = zsm (fun j => zsm (fun i => b2i (sk_bd a j i y.toInt)) 4) cn + zsm (fun j => b2i (sk_bd a c.toInt j y.toInt)) k → X 13 [some (zR t 0), some (zI y), some (zI s), some (zI c), some (zI i)] [] M) (fun s i hi hs => ?_) (fun k hk4 ih s i hi hs => ?_) 0 (by omega) s 0 rfl (by rw [hs]; simp [zsm])
    · refine vc_X3_boundIn_13 hX hk ⟨fun _ => hout s (by rw [zsm_s, hs, ← hc]), fun q => ?_⟩
      simp only [Int32.lt_iff_toInt_lt, Int32.le_iff_toInt_le, ← Int32.toInt_inj, Int32.toInt_add, Int32.toInt_sub, Int32.toInt_mul, Int32.toInt_neg, Int.bmod, Int32.reduceToInt] at q; omega
    · have bk := zsm_b (f := fun j => b2i (sk_bd a c.toInt j y.toInt)) (fun k => b2i_b _) k
      have next : ∀ s' : Int32, s'.toInt = s.toInt + b2i (sk_bd a c.toInt i.toInt y.toInt) → X 13 [some (zR t 0), some (zI y), some (zI s'), some (zI c), some (zI (i + 1))] [] M := fun s' hs' => ih s' (i + 1) (z_inc hi (by omega)) (by rw [zsm_s, hs', hs, hi]; omega)
      refine vc_X3_boundIn_13 hX hk ⟨fun q => ?_, fun _ => ⟨a, ha, hy, fun v1 hv1 => ⟨fun h1 => next s ?_, fun h1 => next _ ?_⟩⟩⟩
      · simp only [Int32.lt_iff_toInt_lt, Int32.le_iff_toInt_le, ← Int32.toInt_inj, Int32.toInt_add, Int32.toInt_sub, Int32.toInt_mul, Int32.toInt_neg, Int.bmod, Int32.reduceToInt] at q; omega
      · rw [hv1, zp_0] at h1; simp [b2i, h1]
      · rw [hv1, zp_n] at h1
        rw [show b2i (sk_bd a c.toInt i.toInt y.toInt) = 1 by simp [b2i, h1]]
        simp only [Int32.lt_iff_toInt_lt, Int32.le_iff_toInt_le, ← Int32.toInt_inj, Int32.toInt_add, Int32.toInt_sub, Int32.toInt_mul, Int32.toInt_neg, Int.bmod, Int32.reduceToInt]; omega
  refine vc_X3_boundIn_0 hX (up (N := 6) (Q := fun k => ∀ s c : Int32, c.toInt = k → s.toInt = zsm (fun j => zsm (fun i => b2i (sk_bd a j i y.toInt)) 4) k → X 4 [some (zR t 0), some (zI y), some (zI s), some (zI c), none] [] M) (fun s c hc hs => ?_) (fun k hk4 ih s c hc hs => ?_) 0 (by omega) 0 0 rfl rfl)
  · refine vc_X3_boundIn_4 hX ⟨fun _ => hK _ hs, fun q => ?_⟩
    simp only [Int32.lt_iff_toInt_lt, Int32.le_iff_toInt_le, ← Int32.toInt_inj, Int32.toInt_add, Int32.toInt_sub, Int32.toInt_mul, Int32.toInt_neg, Int.bmod, Int32.reduceToInt] at q; omega
  · refine vc_X3_boundIn_4 hX ⟨fun q => ?_, fun _ => inner k c hc hk4 (fun s' hs' => ih s' (c + 1) (z_inc hc (by omega)) hs') s hs⟩
    simp only [Int32.lt_iff_toInt_lt, Int32.le_iff_toInt_le, ← Int32.toInt_inj, Int32.toInt_add, Int32.toInt_sub, Int32.toInt_mul, Int32.toInt_neg, Int.bmod, Int32.reduceToInt] at q; omega
theorem ms_X3_boundIn : zMS 5 yX3_boundIn cX3_boundIn 5 (some .int) sp_X3_boundIn := by
  intro d hd
  obtain ⟨d', rfl⟩ : ∃ d', d = d' + 5 := ⟨d - 5, by omega⟩
  refine zmethod (tab := tb_X3_boundIn) (cut := [(4, [4]), (13, [])]) (by decide) (tk_X3_boundIn d' ms_X3_bound) ?_
  intro kd as M K h
  unfold sp_X3_boundIn at h
  split at h
  · rename_i t y
    exact ⟨Nat.le_of_ble_eq_true rfl, fun X hX => mt_X3_boundIn hX t y M h⟩
  · exact h.elim

set_option maxRecDepth 20000 in
theorem mt_X3_quarrelsIn {kd : Nat → Nat} {K : zK} {X : zX} (hX : ∀ (n pc : Nat) (ls : zLS) (st : List zV) (M : zM), zrun (tb_X3_quarrelsIn kd K) [(4, [])] n X pc ls st M → X pc ls st M) (t : Nat) (y : Int32) (M : zM) (h : (kd t = 3) ∧ ∃ a : Sk, (RpS (M.1 t) a) ∧ (0 ≤ y.toInt ∧ y.toInt < 1000000) ∧ ∀ v : Int32, (v.toInt = sk_qu a y.toInt) → K (some (zI v)) M) : X 0 [some (zR t 0), some (zI (y)), none, none] [] M := by
  obtain ⟨hk, a, ha, hy, hK⟩ := h
  refine vc_X3_quarrelsIn_0 hX (up (N := 5) (Q := fun k => ∀ s g : Int32, g.toInt = k → s.toInt = zsm (fun j => b2i (decide (sk_law a j y.toInt = 3))) k → X 4 [some (zR t 0), some (zI y), some (zI s), some (zI g)] [] M) (fun s g hg hs => ?_) (fun k hk4 ih s g hg hs => ?_) 0 (by omega) 0 0 rfl rfl)
  · refine vc_X3_quarrelsIn_4 hX hk ⟨fun _ => hK _ hs, fun q => ?_⟩
    simp only [Int32.lt_iff_toInt_lt, Int32.le_iff_toInt_le, ← Int32.toInt_inj, Int32.toInt_add, Int32.toInt_sub, Int32.toInt_mul, Int32.toInt_neg, Int.bmod, Int32.reduceToInt] at q; omega
  · have bk := zsm_b (f := fun j => b2i (decide (sk_law a j y.toInt = 3))) (fun k => b2i_b _) k
    refine vc_X3_quarrelsIn_4 hX hk ⟨fun q => ?_, fun _ => ⟨a, ha, hy, fun v1 hv1 => ⟨fun h1 => ih _ _ (z_inc hg (by omega)) ?_, fun h1 => ih _ _ (z_inc hg (by omega)) ?_⟩⟩⟩
    · simp only [Int32.lt_iff_toInt_lt, Int32.le_iff_toInt_le, ← Int32.toInt_inj, Int32.toInt_add, Int32.toInt_sub, Int32.toInt_mul, Int32.toInt_neg, Int.bmod, Int32.reduceToInt] at q; omega
    · rw [← Int32.toInt_inj, hv1, hg] at h1
      have h1' : ¬ sk_law a k y.toInt = 3 := h1
      rw [zsm_s, hs]; simp [b2i, h1']
    · rw [← Int32.toInt_inj, hv1, hg] at h1
      have h1' : sk_law a k y.toInt = 3 := h1
      rw [zsm_s]
      rw [show b2i (decide (sk_law a k y.toInt = 3)) = 1 by simp [b2i, h1']]
      simp only [Int32.lt_iff_toInt_lt, Int32.le_iff_toInt_le, ← Int32.toInt_inj, Int32.toInt_add, Int32.toInt_sub, Int32.toInt_mul, Int32.toInt_neg, Int.bmod, Int32.reduceToInt]; omega
theorem ms_X3_quarrelsIn : zMS 6 yX3_quarrelsIn cX3_quarrelsIn 4 (some .int) sp_X3_quarrelsIn := by
  intro d hd
  obtain ⟨d', rfl⟩ : ∃ d', d = d' + 6 := ⟨d - 6, by omega⟩
  refine zmethod (tab := tb_X3_quarrelsIn) (cut := [(4, [])]) (by decide) (tk_X3_quarrelsIn d' ms_X3_law) ?_
  intro kd as M K h
  unfold sp_X3_quarrelsIn at h
  split at h
  · rename_i t y
    exact ⟨Nat.le_of_ble_eq_true rfl, fun X hX => mt_X3_quarrelsIn hX t y M h⟩
  · exact h.elim

set_option maxRecDepth 20000 in
theorem mt_X3_tornSide {kd : Nat → Nat} {K : zK} {X : zX} (hX : ∀ (n pc : Nat) (ls : zLS) (st : List zV) (M : zM), zrun (tb_X3_tornSide kd K) [] n X pc ls st M → X pc ls st M) (t : Nat) (g : Int32) (y : Int32) (M : zM) (h : (kd t = 3) ∧ ∃ a : Sk, (RpS (M.1 t) a) ∧ (0 ≤ y.toInt ∧ y.toInt < 1000000) ∧ ∀ v : Int32, (v.toInt = sk_side a g.toInt y.toInt) → K (some (zI v)) M) : X 0 [some (zR t 0), some (zI (g)), some (zI (y)), none, none] [] M := by
  obtain ⟨hk, a, ha, hy, hK⟩ := h
  have b1 := sk_N_b a g.toInt 1 y.toInt
  have b0 := sk_N_b a g.toInt 0 y.toInt
  refine vc_X3_tornSide_0 hX hk ⟨a, ha, hy, fun v1 hv1 => ⟨a, ha, hy, fun v2 hv2 => ?_⟩⟩
  have hv1' : v1.toInt = sk_N a g.toInt 1 y.toInt := hv1
  have hv2' : v2.toInt = sk_N a g.toInt 0 y.toInt := hv2
  refine ⟨fun h1 => hK _ ?_, fun h1 => ⟨fun h2 => ⟨fun h3 => hK _ ?_, fun h3 => hK _ ?_⟩, fun h2 => hK _ ?_⟩⟩
  · simp only [Int32.lt_iff_toInt_lt, Int32.le_iff_toInt_le, ← Int32.toInt_inj, Int32.toInt_add, Int32.toInt_sub, Int32.toInt_mul, Int32.toInt_neg, Int.bmod, Int32.reduceToInt] at h1
    unfold sk_side; rw [if_pos (by omega)]; rfl
  · simp only [Int32.lt_iff_toInt_lt, Int32.le_iff_toInt_le, ← Int32.toInt_inj, Int32.toInt_add, Int32.toInt_sub, Int32.toInt_mul, Int32.toInt_neg, Int.bmod, Int32.reduceToInt] at h1 h2 h3
    unfold sk_side; rw [if_neg (by omega), if_neg (by omega)]; rfl
  · simp only [Int32.lt_iff_toInt_lt, Int32.le_iff_toInt_le, ← Int32.toInt_inj, Int32.toInt_add, Int32.toInt_sub, Int32.toInt_mul, Int32.toInt_neg, Int.bmod, Int32.reduceToInt] at h1 h2 h3
    unfold sk_side; rw [if_neg (by omega), if_pos (by omega)]; rfl
  · simp only [Int32.lt_iff_toInt_lt, Int32.le_iff_toInt_le, ← Int32.toInt_inj, Int32.toInt_add, Int32.toInt_sub, Int32.toInt_mul, Int32.toInt_neg, Int.bmod, Int32.reduceToInt] at h2
    unfold sk_side; rw [if_pos (by omega)]; rfl
theorem ms_X3_tornSide : zMS 5 yX3_tornSide cX3_tornSide 5 (some .int) sp_X3_tornSide := by
  intro d hd
  obtain ⟨d', rfl⟩ : ∃ d', d = d' + 5 := ⟨d - 5, by omega⟩
  refine zmethod (tab := tb_X3_tornSide) (cut := []) (by decide) (tk_X3_tornSide d' ms_X3_tally) ?_
  intro kd as M K h
  unfold sp_X3_tornSide at h
  split at h
  · rename_i t g y
    exact ⟨Nat.le_of_ble_eq_true rfl, fun X hX => mt_X3_tornSide hX t g y M h⟩
  · exact h.elim

set_option maxRecDepth 20000 in
theorem mt_X3_tornInAll {kd : Nat → Nat} {K : zK} {X : zX} (hX : ∀ (n pc : Nat) (ls : zLS) (st : List zV) (M : zM), zrun (tb_X3_tornInAll kd K) [(4, [])] n X pc ls st M → X pc ls st M) (t : Nat) (y : Int32) (M : zM) (h : (kd t = 3) ∧ ∃ a : Sk, (RpS (M.1 t) a) ∧ (0 ≤ y.toInt ∧ y.toInt < 1000000) ∧ ∀ v : Int32, (v.toInt = sk_torn a y.toInt) → K (some (zI v)) M) : X 0 [some (zR t 0), some (zI (y)), none, none] [] M := by
  obtain ⟨hk, a, ha, hy, hK⟩ := h
  have bm : ∀ k : Nat, 0 ≤ (if sk_N a k 0 y.toInt < sk_N a k 1 y.toInt then sk_N a k 0 y.toInt else sk_N a k 1 y.toInt) ∧ (if sk_N a k 0 y.toInt < sk_N a k 1 y.toInt then sk_N a k 0 y.toInt else sk_N a k 1 y.toInt) ≤ 24 := fun k => by
    have b1 := sk_N_b a k 1 y.toInt
    have b0 := sk_N_b a k 0 y.toInt
    split <;> omega
  refine vc_X3_tornInAll_0 hX (up (N := 5) (Q := fun k => ∀ s g : Int32, g.toInt = k → s.toInt = zsm (fun t => if sk_N a t 0 y.toInt < sk_N a t 1 y.toInt then sk_N a t 0 y.toInt else sk_N a t 1 y.toInt) k → X 4 [some (zR t 0), some (zI y), some (zI s), some (zI g)] [] M) (fun s g hg hs => ?_) (fun k hk4 ih s g hg hs => ?_) 0 (by omega) 0 0 rfl rfl)
  · refine vc_X3_tornInAll_4 hX hk ⟨fun _ => hK _ hs, fun q => ?_⟩
    simp only [Int32.lt_iff_toInt_lt, Int32.le_iff_toInt_le, ← Int32.toInt_inj, Int32.toInt_add, Int32.toInt_sub, Int32.toInt_mul, Int32.toInt_neg, Int.bmod, Int32.reduceToInt] at q; omega
  · have bk := zsm_b (f := fun t : Nat => if sk_N a t 0 y.toInt < sk_N a t 1 y.toInt then sk_N a t 0 y.toInt else sk_N a t 1 y.toInt) bm k
    have bmk := bm k
    refine vc_X3_tornInAll_4 hX hk ⟨fun q => ?_, fun _ => ⟨a, ha, hy, fun v1 hv1 => ⟨a, ha, hy, fun v2 hv2 => ih _ _ (z_inc hg (by omega)) ?_⟩⟩⟩
    · simp only [Int32.lt_iff_toInt_lt, Int32.le_iff_toInt_le, ← Int32.toInt_inj, Int32.toInt_add, Int32.toInt_sub, Int32.toInt_mul, Int32.toInt_neg, Int.bmod, Int32.reduceToInt] at q; omega
    · rw [hg] at hv1 hv2
      have hv1' : v1.toInt = sk_N a k 0 y.toInt := hv1
      have hv2' : v2.toInt = sk_N a k 1 y.toInt := hv2
      have em : (if v2 < v1 then v2 else v1).toInt = if sk_N a k 0 y.toInt < sk_N a k 1 y.toInt then sk_N a k 0 y.toInt else sk_N a k 1 y.toInt := by
        simp only [Int32.lt_iff_toInt_lt, hv1', hv2']
        split <;> split <;> omega
      rw [zsm_s, z_add (by omega) (by omega), hs, em]
theorem ms_X3_tornInAll : zMS 5 yX3_tornInAll cX3_tornInAll 4 (some .int) sp_X3_tornInAll := by
  intro d hd
  obtain ⟨d', rfl⟩ : ∃ d', d = d' + 5 := ⟨d - 5, by omega⟩
  refine zmethod (tab := tb_X3_tornInAll) (cut := [(4, [])]) (by decide) (tk_X3_tornInAll d' ms_X3_tally) ?_
  intro kd as M K h
  unfold sp_X3_tornInAll at h
  split at h
  · rename_i t y
    exact ⟨Nat.le_of_ble_eq_true rfl, fun X hX => mt_X3_tornInAll hX t y M h⟩
  · exact h.elim

