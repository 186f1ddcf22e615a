/-! numbers -/
def zp (P : Prop) [Decidable P] : Int32 := if P then 1 else 0
theorem zp_0 {P : Prop} [Decidable P] : zp P = 0 ↔ ¬ P := by unfold zp; split <;> simp_all
theorem zp_n {P : Prop} [Decidable P] : (¬ zp P = 0) ↔ P := by unfold zp; split <;> simp_all
theorem zp_01 {P : Prop} [Decidable P] : zp P = 0 ∨ zp P = 1 := by unfold zp; split <;> simp
theorem zp_t {P : Prop} [Decidable P] (h : P) : zp P = 1 := if_pos h
theorem zp_f {P : Prop} [Decidable P] (h : ¬ P) : zp P = 0 := if_neg h
theorem zp_i {P Q : Prop} [Decidable P] [Decidable Q] (h : P ↔ Q) : zp P = zp Q := by unfold zp; simp only [h]
theorem z_cl (x : Int32) : x.toNatClampNeg = x.toInt.toNat := rfl
theorem zin_of {k o ty n : Nat} {x : Int32} (h : zar k o = some (ty, n)) (h0 : 0 ≤ x.toInt) (h1 : x.toInt < n) : zin k o ty x := ⟨n, h, vp_in_iff.mpr ⟨h0, h1⟩⟩
theorem z_div {x y : Int32} (hx : 0 ≤ x.toInt) (hy : 0 < y.toInt) : (x / y).toInt = x.toInt / y.toInt := by
  rw [Int32.toInt_div, Int.tdiv_eq_ediv_of_nonneg hx]
  have h1 := Int32.toInt_lt x
  have h2 : 0 ≤ x.toInt / y.toInt := Int.ediv_nonneg hx (by omega)
  have h3 : x.toInt / y.toInt ≤ x.toInt := Int.ediv_le_self _ hx
  simp only [Int.bmod]
  omega
theorem z_add {x y : Int32} (h1 : -2147483648 ≤ x.toInt + y.toInt) (h2 : x.toInt + y.toInt < 2147483648) : (x + y).toInt = x.toInt + y.toInt := by
  rw [Int32.toInt_add]; simp only [Int.bmod]; omega
theorem z_sub {x y : Int32} (h1 : -2147483648 ≤ x.toInt - y.toInt) (h2 : x.toInt - y.toInt < 2147483648) : (x - y).toInt = x.toInt - y.toInt := by
  rw [Int32.toInt_sub]; simp only [Int.bmod]; omega
theorem z_mul {x y : Int32} (h1 : -2147483648 ≤ x.toInt * y.toInt) (h2 : x.toInt * y.toInt < 2147483648) : (x * y).toInt = x.toInt * y.toInt := by
  rw [Int32.toInt_mul]; simp only [Int.bmod]; generalize x.toInt * y.toInt = z at *; omega
theorem z_rng (x : Int32) : -2147483648 ≤ x.toInt ∧ x.toInt < 2147483648 := ⟨by have := Int32.le_toInt x; simpa using this, by have := Int32.toInt_lt x; simpa using this⟩
theorem z_of {z : Int} (h1 : -2147483648 ≤ z) (h2 : z < 2147483648) : (Int32.ofInt z).toInt = z := by
  rw [Int32.toInt_ofInt]; simp only [Int.bmod, Int32.size]; omega
/-! memory: one block put in another's place -/
def zbs (M : zM) (t : Nat) (S : zB) : zM := (fun u => if u = t then S else M.1 u, M.2)
theorem zbs_at {M : zM} {t : Nat} {S : zB} : (zbs M t S).1 t = S := by simp [zbs]
theorem zbs_ne {M : zM} {t u : Nat} {S : zB} (h : u ≠ t) : (zbs M t S).1 u = M.1 u := by simp [zbs, h]
theorem zbs_2 {M : zM} {t : Nat} {S : zB} : (zbs M t S).2 = M.2 := rfl
theorem zbs_bs {M : zM} {t : Nat} {S S' : zB} : zbs (zbs M t S) t S' = zbs M t S' := by
  unfold zbs
  congr 1
  funext u
  by_cases h : u = t <;> simp [h]
theorem zbs_self {M : zM} {t : Nat} : zbs M t (M.1 t) = M := by
  unfold zbs
  have : (fun u => if u = t then M.1 t else M.1 u) = M.1 := by
    funext u
    by_cases h : u = t <;> simp [h]
  rw [this]
theorem zbs_cm {M : zM} {t u : Nat} {S S' : zB} (h : t ≠ u) : zbs (zbs M t S) u S' = zbs (zbs M u S') t S := by
  unfold zbs
  congr 1
  funext w
  by_cases h1 : w = t
  · subst h1; simp [h]
  · by_cases h2 : w = u
    · subst h2; simp [h1]
    · simp [h1, h2]
def zrw (S : zB) (o : Nat) (f : Nat → Int32) : zB := fun o' => if o' = o then f else S o'
theorem zrw_at {S : zB} {o : Nat} {f : Nat → Int32} : zrw S o f o = f := by simp [zrw]
theorem zrw_ne {S : zB} {o p : Nat} {f : Nat → Int32} (h : p ≠ o) : zrw S o f p = S p := by simp [zrw, h]
theorem zmw_bs {M : zM} {t o : Nat} {f : Nat → Int32} : zmw M t o f = zbs M t (zrw (M.1 t) o f) := by
  unfold zmw zbs zrw
  congr 1
  funext u
  by_cases h : u = t
  · subst h
    funext o'
    by_cases h2 : o' = o <;> simp [h2]
  · funext o'
    simp [h]
/-! the abstract skin: of a cell its layers (kind, thing, lets, written, rubbed; -1: not rubbed), and the year -/
abbrev Ly : Type := Int × Int × Int × Int × Int
abbrev Sk : Type := (Nat → List Ly) × Int
def okLy (yr : Int) (l : Ly) : Prop := (0 ≤ l.1 ∧ l.1 ≤ 5) ∧ (0 ≤ l.2.1 ∧ l.2.1 ≤ 4) ∧ (l.2.2.1 = 0 ∨ l.2.2.1 = 1) ∧ (0 ≤ l.2.2.2.1 ∧ l.2.2.2.1 ≤ yr) ∧ (l.2.2.2.2 = -1 ∨ (l.2.2.2.1 ≤ l.2.2.2.2 ∧ l.2.2.2.2 ≤ yr))
def okCe (yr : Int) (ll : List Ly) : Prop := ll.length ≤ 4 ∧ (∀ (i : Nat) (l : Ly), ll[i]? = some l → okLy yr l) ∧ (∀ (i : Nat) (l o : Ly), ll[i]? = some l → ll[i + 1]? = some o → l.2.2.2.2 ≠ -1 ∧ l.2.2.2.2 ≤ o.2.2.2.1)
def okSk (a : Sk) : Prop := (0 ≤ a.2 ∧ a.2 ≤ 999) ∧ ∀ c, c < 6 → okCe a.2 (a.1 c)
def sk_at (a : Sk) (c i : Int) : Option Ly := if 0 ≤ c ∧ c < 6 ∧ 0 ≤ i then (a.1 c.toNat)[i.toNat]? else none
def sk_len (a : Sk) (c : Int) : Int := ((a.1 c.toNat).length : Int)
def sk_top (a : Sk) (c : Int) : Option Ly := if 0 ≤ c ∧ c < 6 then (a.1 c.toNat)[(a.1 c.toNat).length - 1]? else none
def sk_canR (a : Sk) (c : Int) : Bool := match sk_top a c with
  | some l => decide (l.2.2.2.2 = -1)
  | none => false
def sk_canW (a : Sk) (c : Int) : Bool := decide (0 ≤ c ∧ c < 6) && !sk_canR a c && decide (sk_len a c < 4)
def sk_upd (a : Sk) (c : Nat) (l : List Ly) : Sk := (fun c' => if c' = c then l else a.1 c', a.2)
def sk_rub (a : Sk) (c : Int) : Sk := match sk_top a c with
  | some l => sk_upd a c.toNat ((a.1 c.toNat).set ((a.1 c.toNat).length - 1) (l.1, l.2.1, l.2.2.1, l.2.2.2.1, a.2))
  | none => a
def sk_wr (a : Sk) (c k th le : Int) : Sk := if sk_len a c < 4 then sk_upd a c.toNat (a.1 c.toNat ++ [(k, th, le, a.2, -1)]) else a
def sk_yr (a : Sk) (n : Int) : Sk := (a.1, if 999 < a.2 + n then 999 else a.2 + n)
def sk_0 : Sk := (fun _ => [], 0)
theorem ok_sk0 : okSk sk_0 := ⟨⟨by decide, by decide⟩, fun c _ => ⟨by simp [sk_0], fun i l h => by simp [sk_0] at h, fun i l o h => by simp [sk_0] at h⟩⟩
/-! what binds -/
def cntK (k st : Int) : Int := if k = 2 then st / 2 else if k = 4 then 2 * st else if k = 5 then st + 3 else st
def ovP (w y : Int) (o : Option Ly) : Prop := match o with
  | none => True
  | some o => y < o.2.2.2.1 ∨ (if o.2.2.2.2 ≠ -1 ∧ o.2.2.2.2 < y then o.2.2.2.2 else y) - o.2.2.2.1 < w
def bndP (k : Int) (l : Ly) (o : Option Ly) (y : Int) : Prop := l.2.2.2.1 ≤ y ∧ (if l.2.2.2.2 = -1 ∨ y < l.2.2.2.2 then k ≠ 1 ∧ k ≠ 5 else k ≠ 3 ∧ ovP (cntK k (l.2.2.2.2 - l.2.2.2.1)) y o)
def opn (k : Int) (l : Ly) : Int := if k = 1 ∨ k = 5 then (if l.2.2.2.2 = -1 then 1000000 else l.2.2.2.2) else l.2.2.2.1
def shO (w : Int) (o : Option Ly) : Int := match o with
  | none => 1000000
  | some o => if o.2.2.2.2 ≠ -1 ∧ o.2.2.2.2 < o.2.2.2.1 + w then 1000000 else o.2.2.2.1 + w
def sht (k : Int) (l : Ly) (o : Option Ly) : Int := if l.2.2.2.2 = -1 then 1000000 else if k = 3 then l.2.2.2.2 else shO (cntK k (l.2.2.2.2 - l.2.2.2.1)) o
theorem cntK_nn {k st : Int} (h : 0 ≤ st) : 0 ≤ cntK k st := by unfold cntK; split <;> (try split) <;> (try split) <;> omega
theorem cntK_le {k st : Int} (h : 0 ≤ st) : cntK k st ≤ 2 * st + 3 := by unfold cntK; split <;> (try split) <;> (try split) <;> omega
/-- the class's run of years is what the document says -/
theorem bnd_eq {k : Int} {l : Ly} {o : Option Ly} {y yr : Int} (hl : okLy yr l) (ho : ∀ x, o = some x → okLy yr x ∧ l.2.2.2.2 ≠ -1 ∧ l.2.2.2.2 ≤ x.2.2.2.1) (hy : 0 ≤ y ∧ y < 1000000) : (opn k l ≤ y ∧ y < sht k l o) ↔ bndP k l o y := by
  obtain ⟨-, -, -, ⟨h1, h2⟩, h3⟩ := hl
  unfold opn sht bndP
  by_cases hr : l.2.2.2.2 = -1
  · have hn : o = none := by
      cases o with
      | none => rfl
      | some x => exact absurd hr (ho x rfl).2.1
    subst hn
    rw [if_pos hr, if_pos hr, if_pos (Or.inl hr)]
    by_cases hk : k = 1 ∨ k = 5
    · rw [if_pos hk]; omega
    · rw [if_neg hk]; omega
  · rw [if_neg hr, if_neg hr]
    have h3' : l.2.2.2.1 ≤ l.2.2.2.2 ∧ l.2.2.2.2 ≤ yr := by
      rcases h3 with h | h
      · exact absurd h hr
      · exact h
    by_cases hyr : y < l.2.2.2.2
    · rw [if_pos (Or.inr hyr)]
      by_cases hk3 : k = 3
      · subst hk3; rw [if_pos rfl]; simp; omega
      · rw [if_neg hk3]
        have hs : y < shO (cntK k (l.2.2.2.2 - l.2.2.2.1)) o := by
          cases o with
          | none => exact hy.2
          | some x =>
            obtain ⟨-, -, g3⟩ := ho x rfl
            have := cntK_nn (k := k) (st := l.2.2.2.2 - l.2.2.2.1) (by omega)
            unfold shO
            dsimp only
            split <;> omega
        by_cases hk : k = 1 ∨ k = 5
        · rw [if_pos hk]; omega
        · rw [if_neg hk]; omega
    · have hnn : ¬ (l.2.2.2.2 = -1 ∨ y < l.2.2.2.2) := by omega
      rw [if_neg hnn]
      by_cases hk3 : k = 3
      · subst hk3; rw [if_pos rfl]; omega
      · rw [if_neg hk3]
        have ho1 : (if k = 1 ∨ k = 5 then l.2.2.2.2 else l.2.2.2.1) ≤ y := by split <;> omega
        have hc := cntK_nn (k := k) (st := l.2.2.2.2 - l.2.2.2.1) (by omega)
        generalize cntK k (l.2.2.2.2 - l.2.2.2.1) = w at hc ⊢
        generalize (if k = 1 ∨ k = 5 then l.2.2.2.2 else l.2.2.2.1) = op at ho1 ⊢
        cases o with
        | none => exact ⟨fun _ => ⟨by omega, hk3, trivial⟩, fun _ => ⟨ho1, hy.2⟩⟩
        | some x =>
          obtain ⟨gl, -, g3⟩ := ho x rfl
          unfold shO ovP
          dsimp only
          split <;> split <;> omega
