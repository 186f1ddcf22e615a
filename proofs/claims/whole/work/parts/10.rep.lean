/-! how a block of the class holds a skin -/
def lyS (S : zB) (q : Nat) (l : Ly) : Prop := (S 2 q).toInt = l.1 ∧ (S 3 q).toInt = l.2.1 ∧ (S 4 q).toInt = l.2.2.1 ∧ (S 5 q).toInt = l.2.2.2.1 ∧ (S 6 q).toInt = l.2.2.2.2
def RpS (S : zB) (a : Sk) : Prop := okSk a ∧ (∀ c, c < 6 → (S 1 c).toInt = ((a.1 c).length : Int) ∧ ∀ (i : Nat) (l : Ly), (a.1 c)[i]? = some l → lyS S (4 * c + i) l) ∧ (S 0 6).toInt = a.2
theorem RpS.h {S : zB} {a : Sk} (h : RpS S a) {c : Int32} (h0 : 0 ≤ c.toInt) (h1 : c.toInt < 6) : (S 1 c.toNatClampNeg).toInt = sk_len a c.toInt := (h.2.1 c.toInt.toNat (by omega)).1
theorem sk_len_b {a : Sk} (h : okSk a) {c : Int} (h0 : 0 ≤ c) (h1 : c < 6) : 0 ≤ sk_len a c ∧ sk_len a c ≤ 4 := by
  have := (h.2 c.toNat (by omega)).1
  unfold sk_len
  omega
theorem sk_at_some {a : Sk} {c i : Int} {l : Ly} (h : sk_at a c i = some l) : 0 ≤ c ∧ c < 6 ∧ 0 ≤ i ∧ i < sk_len a c ∧ (a.1 c.toNat)[i.toNat]? = some l := by
  unfold sk_at at h
  split at h
  · rename_i h1
    have := (List.getElem?_eq_some_iff.mp h).1
    exact ⟨h1.1, h1.2.1, h1.2.2, by unfold sk_len; omega, h⟩
  · cases h
theorem sk_at_iff {a : Sk} {c i : Int} : (sk_at a c i).isSome = true ↔ (0 ≤ c ∧ c < 6 ∧ 0 ≤ i ∧ i < sk_len a c) := by
  constructor
  · intro h
    obtain ⟨l, hl⟩ := Option.isSome_iff_exists.mp h
    obtain ⟨h1, h2, h3, h4, -⟩ := sk_at_some hl
    exact ⟨h1, h2, h3, h4⟩
  · rintro ⟨h1, h2, h3, h4⟩
    unfold sk_at
    rw [if_pos ⟨h1, h2, h3⟩]
    unfold sk_len at h4
    rw [List.getElem?_eq_getElem (by omega)]
    rfl
theorem sk_at_of {a : Sk} {c i : Int} (h : 0 ≤ c ∧ c < 6 ∧ 0 ≤ i ∧ i < sk_len a c) : ∃ l, sk_at a c i = some l := Option.isSome_iff_exists.mp (sk_at_iff.mpr h)
theorem sk_at_none {a : Sk} {c i : Int} (h : ¬ (0 ≤ c ∧ c < 6 ∧ 0 ≤ i ∧ i < sk_len a c)) : sk_at a c i = none := by
  cases hx : sk_at a c i with
  | none => rfl
  | some l => exact absurd (sk_at_iff.mp (by rw [hx]; rfl)) h
theorem sk_top_at {a : Sk} {c : Int} : sk_top a c = sk_at a c (sk_len a c - 1) := by
  unfold sk_top
  by_cases h : 0 ≤ c ∧ c < 6
  · rw [if_pos h]
    by_cases h0 : (a.1 c.toNat).length = 0
    · rw [sk_at_none (by unfold sk_len; omega), List.getElem?_eq_none (by omega)]
    · unfold sk_at sk_len
      rw [if_pos (by omega)]
      congr 1
      omega
  · rw [if_neg h, sk_at_none (fun q => h ⟨q.1, q.2.1⟩)]
theorem sk_top_iff {a : Sk} {c : Int} : (sk_top a c).isSome = true ↔ (0 ≤ c ∧ c < 6 ∧ 0 < sk_len a c) := by
  rw [sk_top_at, sk_at_iff]
  omega
theorem RpS.ly {S : zB} {a : Sk} (h : RpS S a) {c i : Int} {l : Ly} (hl : sk_at a c i = some l) {q : Int32} (hq : q.toInt = 4 * c + i) : lyS S q.toNatClampNeg l := by
  obtain ⟨h1, h2, h3, h4, h5⟩ := sk_at_some hl
  have := (h.2.1 c.toNat (by omega)).2 i.toNat l h5
  rw [z_cl, hq, show (4 * c + i).toNat = 4 * c.toNat + i.toNat by omega]
  exact this
theorem sk_ok_at {a : Sk} (h : okSk a) {c i : Int} {l : Ly} (hl : sk_at a c i = some l) : okLy a.2 l := by
  obtain ⟨h1, h2, h3, h4, h5⟩ := sk_at_some hl
  exact (h.2 c.toNat (by omega)).2.1 i.toNat l h5
theorem sk_ok_ov {a : Sk} (h : okSk a) {c i : Int} {l o : Ly} (hl : sk_at a c i = some l) (ho : sk_at a c (i + 1) = some o) : okLy a.2 o ∧ l.2.2.2.2 ≠ -1 ∧ l.2.2.2.2 ≤ o.2.2.2.1 := by
  obtain ⟨h1, h2, h3, h4, h5⟩ := sk_at_some hl
  obtain ⟨-, -, -, -, h6⟩ := sk_at_some ho
  rw [show (i + 1).toNat = i.toNat + 1 by omega] at h6
  exact ⟨sk_ok_at h ho, (h.2 c.toNat (by omega)).2.2 i.toNat l o h5 h6⟩
/-! the abstract strokes keep a skin well formed -/
theorem sk_canR_iff {a : Sk} {c : Int} : sk_canR a c = true ↔ ∃ l, sk_top a c = some l ∧ l.2.2.2.2 = -1 := by
  unfold sk_canR
  cases h : sk_top a c with
  | none => simp
  | some l => simp
theorem sk_canR_f {a : Sk} {c : Int} (h : sk_canR a c = false) {l : Ly} (hl : sk_top a c = some l) : l.2.2.2.2 ≠ -1 := fun e => by
  have := sk_canR_iff.mpr ⟨l, hl, e⟩
  rw [h] at this
  cases this
theorem sk_canW_iff {a : Sk} {c : Int} : sk_canW a c = true ↔ (0 ≤ c ∧ c < 6) ∧ sk_canR a c = false ∧ sk_len a c < 4 := by
  unfold sk_canW
  simp [and_assoc]
theorem sk_yr_ok {a : Sk} (h : okSk a) {n : Int} (hn : 0 ≤ n) : okSk (sk_yr a n) := by
  have h1 := h.1
  have h2 : a.2 ≤ (sk_yr a n).2 := by unfold sk_yr; dsimp only; split <;> omega
  have h3 : (sk_yr a n).2 ≤ 999 := by unfold sk_yr; dsimp only; split <;> omega
  refine ⟨⟨by omega, h3⟩, fun c hc => ⟨(h.2 c hc).1, fun i l hl => ?_, (h.2 c hc).2.2⟩⟩
  obtain ⟨g1, g2, g3, g4, g5⟩ := (h.2 c hc).2.1 i l hl
  exact ⟨g1, g2, g3, ⟨g4.1, by omega⟩, by omega⟩
theorem sk_upd_ok {a : Sk} (h : okSk a) {c : Nat} {ll : List Ly} (hl : okCe a.2 ll) : okSk (sk_upd a c ll) := by
  refine ⟨h.1, fun c' hc => ?_⟩
  show okCe a.2 (if c' = c then ll else a.1 c')
  split
  · exact hl
  · exact h.2 c' hc
theorem sk_rub_eq {a : Sk} {c : Int} {l : Ly} (hl : sk_top a c = some l) : sk_rub a c = sk_upd a c.toNat ((a.1 c.toNat).set ((a.1 c.toNat).length - 1) (l.1, l.2.1, l.2.2.1, l.2.2.2.1, a.2)) := by
  unfold sk_rub; rw [hl]
theorem sk_top_get {a : Sk} {c : Int} {l : Ly} (hl : sk_top a c = some l) : 0 ≤ c ∧ c < 6 ∧ (a.1 c.toNat)[(a.1 c.toNat).length - 1]? = some l := by
  unfold sk_top at hl
  split at hl
  · rename_i h; exact ⟨h.1, h.2, hl⟩
  · cases hl
theorem sk_rub_ok {a : Sk} (h : okSk a) {c : Int} {l : Ly} (hl : sk_top a c = some l) : okSk (sk_rub a c) := by
  rw [sk_rub_eq hl]
  obtain ⟨h1, h2, h3⟩ := sk_top_get hl
  obtain ⟨g1, g2, g3⟩ := h.2 c.toNat (by omega)
  have hlt := (List.getElem?_eq_some_iff.mp h3).1
  obtain ⟨q1, q2, q3, q4, q5⟩ := g2 _ l h3
  refine sk_upd_ok h ⟨by rw [List.length_set]; exact g1, fun i x hx => ?_, fun i x o hx ho => ?_⟩
  · by_cases hi : (a.1 c.toNat).length - 1 = i
    · subst hi
      rw [List.getElem?_set_self hlt] at hx
      cases hx
      exact ⟨q1, q2, q3, q4, Or.inr ⟨q4.2, Int.le_refl _⟩⟩
    · rw [List.getElem?_set_ne hi] at hx
      exact g2 i x hx
  · have hi : ¬ (a.1 c.toNat).length - 1 = i := fun e => by
      have := (List.getElem?_eq_some_iff.mp ho).1
      rw [List.length_set] at this
      omega
    rw [List.getElem?_set_ne hi] at hx
    by_cases hi2 : (a.1 c.toNat).length - 1 = i + 1
    · rw [hi2, List.getElem?_set_self (by omega)] at ho
      cases ho
      rw [hi2] at h3
      exact g3 i x l hx h3
    · rw [List.getElem?_set_ne hi2] at ho
      exact g3 i x o hx ho
theorem sk_wr_ok {a : Sk} (h : okSk a) {c k th le : Int} (h0 : 0 ≤ c) (h6 : c < 6) (hr : sk_canR a c = false) (hk : 0 ≤ k ∧ k ≤ 5) (ht : 0 ≤ th ∧ th ≤ 4) (he : le = 0 ∨ le = 1) : okSk (sk_wr a c k th le) := by
  unfold sk_wr
  split
  · rename_i hlen
    obtain ⟨g1, g2, g3⟩ := h.2 c.toNat (by omega)
    unfold sk_len at hlen
    refine sk_upd_ok h ⟨by rw [List.length_append]; simp; omega, fun i x hx => ?_, fun i x o hx ho => ?_⟩
    · rw [List.getElem?_append] at hx
      split at hx
      · exact g2 i x hx
      · rename_i hi
        have : x = (k, th, le, a.2, -1) := by
          cases hj : i - (a.1 c.toNat).length with
          | zero => rw [hj] at hx; simp at hx; exact hx.symm
          | succ n => rw [hj] at hx; simp at hx
        subst this
        exact ⟨hk, ht, he, ⟨h.1.1, Int.le_refl _⟩, Or.inl rfl⟩
    · have hi1 := (List.getElem?_eq_some_iff.mp ho).1
      rw [List.length_append] at hi1
      simp at hi1
      rw [List.getElem?_append_left (by omega)] at hx
      by_cases hi2 : i + 1 < (a.1 c.toNat).length
      · rw [List.getElem?_append_left hi2] at ho
        exact g3 i x o hx ho
      · rw [List.getElem?_append_right (by omega), show i + 1 - (a.1 c.toNat).length = 0 by omega] at ho
        simp at ho
        subst ho
        obtain ⟨-, -, -, -, q5⟩ := g2 i x hx
        have htop : sk_top a c = some x := by
          unfold sk_top
          rw [if_pos ⟨h0, h6⟩, show (a.1 c.toNat).length - 1 = i by omega]
          exact hx
        have := sk_canR_f hr htop
        exact ⟨this, by show x.2.2.2.2 ≤ a.2; omega⟩
  · exact h
def sk_may (a : Sk) (w : Int) : Bool := if w < 10 then sk_canR a w else sk_canW a (w - 10)
def sk_do (a : Sk) (w th le : Int) : Sk := if w < 10 then sk_rub a w else sk_wr a (w - 10) 0 th le
def sk_aft (b : Sk) (w : Int) (a : Sk) : Prop := if w < 10 then sk_canR b w = true ∧ a = sk_rub b w else (0 ≤ w - 10 ∧ w - 10 < 6) ∧ sk_len b (w - 10) < 4 ∧ ∃ k th le, a = sk_wr b (w - 10) k th le
def sk_ch (a : Sk) (d : Int) : Sk := if sk_canR a (d % 6) then sk_rub a (d % 6) else sk_wr a (d % 6) (if d % 7 = 6 then 0 else d % 7) (d % 5) (d % 2)
def ly_f (l : Ly) (w : Int) : Int := if w = 0 then l.1 else if w = 1 then l.2.1 else if w = 2 then l.2.2.1 else if w = 3 then l.2.2.2.1 else l.2.2.2.2
/-! sums and counts -/
def zsm (f : Nat → Int) : Nat → Int
  | 0 => 0
  | n + 1 => zsm f n + f n
theorem zsm_s (f : Nat → Int) (n : Nat) : zsm f (n + 1) = zsm f n + f n := rfl
def b2i (b : Bool) : Int := if b then 1 else 0
theorem zsm_b {f : Nat → Int} {lo hi : Int} (hf : ∀ k, lo ≤ f k ∧ f k ≤ hi) : ∀ n : Nat, n * lo ≤ zsm f n ∧ zsm f n ≤ n * hi
  | 0 => by simp [zsm]
  | n + 1 => by
    have h1 := zsm_b hf n
    have h2 := hf n
    rw [zsm_s]
    have e1 : ((n + 1 : Nat) : Int) * lo = n * lo + lo := by rw [Int.natCast_add, Int.add_mul]; simp
    have e2 : ((n + 1 : Nat) : Int) * hi = n * hi + hi := by rw [Int.natCast_add, Int.add_mul]; simp
    omega
theorem zsm_c {f g : Nat → Int} : ∀ {n : Nat}, (∀ k, k < n → f k = g k) → zsm f n = zsm g n
  | 0, _ => rfl
  | n + 1, h => by rw [zsm_s, zsm_s, zsm_c (fun k hk => h k (by omega)), h n (by omega)]
def sk_all (a : Sk) : Int := zsm (fun c => ((a.1 c).length : Int)) 6
def bnd (k : Int) (l : Ly) (o : Option Ly) (y : Int) : Bool := decide (opn k l ≤ y ∧ y < sht k l o)
def sk_bd (a : Sk) (c i y : Int) : Bool := match sk_at a c i with
  | some l => bnd l.1 l (sk_at a c (i + 1)) y
  | none => false
/-- a layer of the thing, that lets (1) or forbids (0), and binds -/
def sk_q (a : Sk) (c i th le y : Int) : Bool := match sk_at a c i with
  | some l => decide (l.2.1 = th) && decide (l.2.2.1 = le) && bnd l.1 l (sk_at a c (i + 1)) y
  | none => false
def sk_n (a : Sk) (c th le y : Int) : Int := zsm (fun i => b2i (sk_q a c i th le y)) 4
def sk_N (a : Sk) (th le y : Int) : Int := zsm (fun c => sk_n a c th le y) 6
def lw2 (x y : Int) : Int := (if 0 < x then 1 else 0) + (if 0 < y then 2 else 0)
def sk_lawC (a : Sk) (c th y : Int) : Int := lw2 (sk_n a c th 1 y) (sk_n a c th 0 y)
def sk_law (a : Sk) (th y : Int) : Int := lw2 (sk_N a th 1 y) (sk_N a th 0 y)
theorem b2i_b (b : Bool) : 0 ≤ b2i b ∧ b2i b ≤ 1 := by cases b <;> simp [b2i]
theorem sk_n_b (a : Sk) (c th le y : Int) : 0 ≤ sk_n a c th le y ∧ sk_n a c th le y ≤ 4 := by
  have := zsm_b (f := fun i => b2i (sk_q a c i th le y)) (fun k => b2i_b _) 4
  unfold sk_n; omega
theorem sk_N_b (a : Sk) (th le y : Int) : 0 ≤ sk_N a th le y ∧ sk_N a th le y ≤ 24 := by
  have := zsm_b (f := fun c => sk_n a c th le y) (fun k => sk_n_b _ _ _ _ _) 6
  unfold sk_N; omega
theorem lw2_b (x y : Int) : 0 ≤ lw2 x y ∧ lw2 x y ≤ 3 := by unfold lw2; split <;> split <;> omega
/-- rows that both sides use -/
def sk_bi (a : Sk) (y : Int) : Int := zsm (fun c => zsm (fun i => b2i (sk_bd a c i y)) 4) 6
def sk_qu (a : Sk) (y : Int) : Int := zsm (fun t => b2i (decide (sk_law a t y = 3))) 5
def sk_isQ (a : Sk) (th v : Int) : Prop := (v = -1 ∧ ∀ y, 0 ≤ y → y ≤ 999 → sk_law a th y ≠ 3) ∨ (0 ≤ v ∧ v ≤ 999 ∧ sk_law a th v = 3 ∧ ∀ y, 0 ≤ y → y < v → sk_law a th y ≠ 3)
def sk_isE (a : Sk) (c i v : Int) : Prop := (v = -1 ∧ sk_bd a c i 999 = true) ∨ (a.2 ≤ v ∧ v ≤ 999 ∧ (∀ y, v ≤ y → y ≤ 999 → sk_bd a c i y = false) ∧ (v = a.2 ∨ sk_bd a c i (v - 1) = true))
def sk_side (a : Sk) (th y : Int) : Int := if sk_N a th 1 y = 0 ∨ sk_N a th 0 y = 0 then -1 else if sk_N a th 1 y ≤ sk_N a th 0 y then 1 else 0
def sk_torn (a : Sk) (y : Int) : Int := zsm (fun t => if sk_N a t 0 y < sk_N a t 1 y then sk_N a t 0 y else sk_N a t 1 y) 5
def sk_tb (a : Sk) (c i y : Int) : Bool := match sk_at a c i with
  | some l => bnd l.1 l (sk_at a c (i + 1)) y && decide (sk_side a l.2.1 y = l.2.2.1)
  | none => false
def sk_tof (a : Sk) (c y : Int) : Int := zsm (fun i => if sk_tb a c i y then 2 ^ i else 0) 4
def sk_hang (a : Sk) (c i y : Int) : Int := match sk_at a c i with
  | some l => if bnd l.1 l (sk_at a c (i + 1)) y = true ∧ sk_N a l.2.1 l.2.2.1 y = 1 then 2 ^ l.2.1.toNat else 0
  | none => 0
