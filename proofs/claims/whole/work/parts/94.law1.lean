/-! answers told by what they are: there is but one -/
theorem isE_u {a : Sk} {c i v w : Int} (h : sk_isE a c i v) (g : sk_isE a c i w) : v = w := by
  have key : ∀ v w : Int, v < w → sk_isE a c i v → sk_isE a c i w → False := by
    intro v w hlt h g
    rcases h with ⟨h1, h2⟩ | ⟨h1, h2, h3, h4⟩
    · rcases g with ⟨g1, g2⟩ | ⟨g1, g2, g3, g4⟩
      · omega
      · have := g3 999 (by omega) (by omega)
        rw [h2] at this
        cases this
    · rcases g with ⟨g1, g2⟩ | ⟨g1, g2, g3, g4⟩
      · have := h3 999 (by omega) (by omega)
        rw [g2] at this
        cases this
      · rcases g4 with g4 | g4
        · omega
        · have := h3 (w - 1) (by omega) (by omega)
          rw [g4] at this
          cases this
  rcases Int.lt_trichotomy v w with h1 | h1 | h1
  · exact (key v w h1 h g).elim
  · exact h1
  · exact (key w v h1 g h).elim
theorem isQ_u {a : Sk} {th v w : Int} (h : sk_isQ a th v) (g : sk_isQ a th w) : v = w := by
  rcases h with ⟨h1, h2⟩ | ⟨h1, h2, h3, h4⟩
  · rcases g with ⟨g1, g2⟩ | ⟨g1, g2, g3, g4⟩
    · omega
    · exact absurd g3 (h2 w g1 g2)
  · rcases g with ⟨g1, g2⟩ | ⟨g1, g2, g3, g4⟩
    · exact absurd h3 (g2 v h1 h2)
    · rcases Int.lt_trichotomy v w with h5 | h5 | h5
      · exact absurd h3 (g4 v h1 h5)
      · exact h5
      · exact absurd g3 (h4 w g1 h5)
theorem isArg_u {gr : Int → Int} {lo hi v w : Int} (h : isArg gr lo hi v) (g : isArg gr lo hi w) : v = w := by
  obtain ⟨h1, h2, h3⟩ := h
  obtain ⟨g1, g2, g3⟩ := g
  rcases Int.lt_trichotomy v w with h5 | h5 | h5
  · have e1 := g3 v h1.1 h5
    have e2 := h2 w g1.1 g1.2
    omega
  · exact h5
  · have e1 := h3 w g1.1 h5
    have e2 := g2 v h1.1 h1.2
    omega
theorem isFst_u {p : Nat → Bool} {N : Nat} {v w : Int} (h : isFst p N v) (g : isFst p N w) : v = w := by
  rcases h with ⟨h1, h2⟩ | ⟨x, h1, h2, h3, h4⟩
  · rcases g with ⟨g1, g2⟩ | ⟨y, g1, g2, g3, g4⟩
    · omega
    · rw [h2 y g1] at g3; cases g3
  · rcases g with ⟨g1, g2⟩ | ⟨y, g1, g2, g3, g4⟩
    · rw [g2 x h1] at h3; cases h3
    · rcases Nat.lt_trichotomy x y with h5 | h5 | h5
      · rw [g4 x h5] at h3; cases h3
      · omega
      · rw [h4 y h5] at g3; cases g3
theorem u_ends {s : St} {c i v w : Int} (h : er_ends s c i v) (g : er_ends s c i w) : v = w := by
  unfold er_ends at h g
  by_cases q : (sk_at s.1.1 c i).isSome = true
  · rw [if_pos q] at h g; exact isE_u h g
  · rw [if_neg q] at h g; omega
theorem u_quarrel {s : St} {th v w : Int} (h : er_quarrel s th v) (g : er_quarrel s th w) : v = w := by
  unfold er_quarrel at h g
  by_cases q : isT th
  · rw [if_pos q] at h g; exact isQ_u h g
  · rw [if_neg q] at h g; omega
theorem u_look {s : St} {c i v w : Int} (h : er_look s c i v) (g : er_look s c i w) : v = w := by
  unfold er_look at h g
  cases hl : sk_at s.1.1 c i with
  | none => rw [hl] at h g; simp only at h g; omega
  | some l =>
    rw [hl] at h g
    simp only at h g
    by_cases q : seFit s.1.2.2 l (sk_at s.1.1 c (i + 1)) c i = 0
    · rw [if_pos q] at h g; omega
    · rw [if_neg q] at h g; exact isArg_u h g
theorem u_strokes {s : St} {th v y k a b : Int} (h : er_strokes s th v y k a) (g : er_strokes s th v y k b) : a = b := by
  unfold er_strokes at h g
  by_cases q : isT th ∧ inn v 1 2 ∧ inn y 0 99 ∧ inn k 0 1
  · rw [if_pos q] at h g
    by_cases q2 : sk_law s.1.1 th (s.1.1.2 + y) = v
    · rw [if_pos q2] at h g; rw [h, g]
    · rw [if_neg q2] at h g
      obtain ⟨f1, hf1, h⟩ := h
      obtain ⟨f1', hf1', g⟩ := g
      have e1 : f1 = f1' := isFst_u hf1 hf1'
      subst e1
      rcases h with ⟨n1, h⟩ | ⟨n1, f2, hf2, h⟩
      · rcases g with ⟨_, g⟩ | ⟨n2, _⟩
        · rw [h, g]
        · exact absurd n2 n1
      · rcases g with ⟨n2, _⟩ | ⟨_, f2', hf2', g⟩
        · exact absurd n1 n2
        · have e2 : f2 = f2' := isFst_u hf2 hf2'
          subst e2
          rw [h, g]
  · rw [if_neg q] at h g; omega
theorem RpM.f9 {M M' : zM} {s : St} (h : RpM M s) (g : fr9 M M') : RpM M' s := by
  unfold RpM RpY at *
  rw [g.1, g.2]
  exact h
theorem RpX.f0 {kd : Nat → Nat} {M M' : zM} {s : St} (h : RpX kd M s) (g : fr0 M M') : RpX kd M' s := by
  have same : ∀ n r, (n + 3 < 9 ∨ 9 < n + 1) → RpO M n r → RpO M' n r := fun n r hn h => by
    obtain ⟨q1, ⟨L', q2, q3⟩, q4⟩ := h
    exact ⟨by rw [g.1 (n + 1) (by omega)]; exact q1, ⟨L', by rw [g.1 (n + 2) (by omega)]; exact q2, q3⟩, by rw [g.1 (n + 3) (by omega)]; exact q4⟩
  exact ⟨same 1 _ (by omega) h.1, fun j hj => ⟨(h.2.1 j hj).1, fun r hr => same _ _ (by omega) ((h.2.1 j hj).2 r hr)⟩, by rw [g.1 8 (by decide)]; exact h.2.2.1, by rw [g.2 0 (by decide)]; exact h.2.2.2.1, fun n hn => by rw [g.1 0 (by decide)]; exact h.2.2.2.2 n hn⟩
theorem vpi {i : Int32} {n L : Nat} (hi : i.toInt = n) (hn : n + 5 ≤ L) (hL : L ≤ 320) : vp_in i L ∧ vp_in (i + 1) L ∧ vp_in (i + 2) L ∧ vp_in (i + 3) L ∧ vp_in (i + 4) L := by
  refine ⟨vp_in_iff.mpr ⟨?_, ?_⟩, vp_in_iff.mpr ⟨?_, ?_⟩, vp_in_iff.mpr ⟨?_, ?_⟩, vp_in_iff.mpr ⟨?_, ?_⟩, vp_in_iff.mpr ⟨?_, ?_⟩⟩ <;> (try simp only [Int32.lt_iff_toInt_lt, Int32.le_iff_toInt_le, ← Int32.toInt_inj, Int32.toInt_add, Int32.toInt_sub, Int32.toInt_mul, Int32.toInt_neg, Int.bmod, Int32.reduceToInt]) <;> omega
