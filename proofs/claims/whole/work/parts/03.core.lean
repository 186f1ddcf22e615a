/-! the abstract machine: values, memory by blocks, one-instruction transformers, what they mean on the machine itself -/
abbrev zV : Type := Int32 ⊕ (Int64 ⊕ ((Nat × Nat) ⊕ Unit))
abbrev zI (x : Int32) : zV := .inl x
abbrev zL (x : Int64) : zV := .inr (.inl x)
abbrev zR (t o : Nat) : zV := .inr (.inr (.inl (t, o)))
abbrev zN : zV := .inr (.inr (.inr ()))
abbrev zB : Type := Nat → Nat → Int32
abbrev zM : Type := (Nat → zB) × (Nat → Nat → Int64)
abbrev zLS : Type := List (Option zV)
abbrev zX : Type := Nat → zLS → List zV → zM → Prop
abbrev zT : Type := zX → zLS → List zV → zM → Prop
abbrev zK : Type := Option zV → zM → Prop
abbrev zSpec : Type := (Nat → Nat) → List zV → zM → zK → Prop
def zcv (ad : Nat × Nat → Nat) (v : zV) : Value := match v with
  | .inl x => .int x
  | .inr (.inl x) => .long x
  | .inr (.inr (.inl r)) => .ref (ad r)
  | .inr (.inr (.inr _)) => .null
def zc2 (v : zV) : Bool := match v with
  | .inr (.inl _) => true
  | _ => false
theorem zcv_cat (ad : Nat × Nat → Nat) (v : zV) : (zcv ad v).category = if zc2 v then 2 else 1 := by
  rcases v with x | x | x | x <;> rfl
/-- writing a whole row of ints -/
def zmw (M : zM) (t o : Nat) (f : Nat → Int32) : zM := (fun t' o' => if t' = t ∧ o' = o then f else M.1 t' o', M.2)
def zml (M : zM) (t j : Nat) (x : Int64) : zM := (M.1, fun t' j' => if t' = t ∧ j' = j then x else M.2 t' j')
/-! locals -/
def zlsl (ad : Nat × Nat → Nat) (ls : zLS) : List (Nat × Value) := ls.zipIdx.filterMap (fun q => q.1.map (fun v => (q.2, zcv ad v)))
theorem zlsl_mem {ad : Nat × Nat → Nat} {ls : zLS} {j : Nat} {w : Value} : (j, w) ∈ zlsl ad ls ↔ ∃ v, ls[j]? = some (some v) ∧ w = zcv ad v := by
  unfold zlsl
  rw [List.mem_filterMap]
  constructor
  · rintro ⟨⟨o, k⟩, hm, he⟩
    have hk := List.mem_zipIdx_iff_getElem?.mp hm
    cases o with
    | none => cases he
    | some v => simp at he; obtain ⟨rfl, rfl⟩ := he; exact ⟨v, hk, rfl⟩
  · rintro ⟨v, h, rfl⟩
    exact ⟨(some v, j), List.mem_zipIdx_iff_getElem?.mpr h, rfl⟩
theorem zlsl_at {ad : Nat × Nat → Nat} {ls : zLS} {arr : Array Slot} {nL i : Nat} {v : zV} (hl : lv_has arr nL (zlsl ad ls)) (h : ls[i]? = some (some v)) : arr[i]? = some (.val (zcv ad v)) := hl.2.2 (i, zcv ad v) (zlsl_mem.mpr ⟨v, h, rfl⟩)
theorem zlsl_ix {ad : Nat × Nat → Nat} {ls : zLS} {i : Nat} {v : zV} (h : ls[i]? = some (some v)) : ∃ k : Nat, (zlsl ad ls)[k]? = some (i, zcv ad v) := List.getElem?_of_mem (zlsl_mem.mpr ⟨v, h, rfl⟩)
def zos (ls : zLS) (i : Nat) : Bool := match i with
  | 0 => true
  | j + 1 => match ls[j]? with
    | some (some v) => !zc2 v
    | _ => true
theorem zst1 {ad : Nat × Nat → Nat} {ls : zLS} {arr : Array Slot} {nL i : Nat} {v : zV} (ho : zos ls i = true) (hi : i < ls.length) (h : lv_has arr nL ((i, zcv ad v) :: (zlsl ad ls).filter (fun q => !(q.1 == i) && !(q.1 + 1 == i && q.2.category == 2)))) : lv_has arr nL (zlsl ad (ls.set i (some v))) := by
  refine ⟨h.1, h.2.1, fun q hq => h.2.2 q ?_⟩
  obtain ⟨j, w⟩ := q
  obtain ⟨u, hu, rfl⟩ := zlsl_mem.mp hq
  by_cases hj : j = i
  · subst hj
    rw [List.getElem?_set_self hi] at hu
    cases hu
    exact List.mem_cons_self
  · rw [List.getElem?_set_ne (fun e => hj e.symm)] at hu
    refine List.mem_cons_of_mem _ (List.mem_filter.mpr ⟨zlsl_mem.mpr ⟨u, hu, rfl⟩, ?_⟩)
    by_cases hji : j + 1 = i
    · subst hji
      simp only [zos, hu] at ho
      rw [zcv_cat]
      simp at ho
      simp [ho]
    · simp [hj, hji]
theorem zst2 {ad : Nat × Nat → Nat} {ls : zLS} {arr : Array Slot} {nL i : Nat} {v : zV} (ho : zos ls i = true) (hi : i + 1 < ls.length) (h : lv_has arr nL ((i, zcv ad v) :: (zlsl ad ls).filter (fun q => !(q.1 == i) && (!(q.1 == i + 1) && !(q.1 + 1 == i && q.2.category == 2))))) : lv_has arr nL (zlsl ad ((ls.set i (some v)).set (i + 1) none)) := by
  refine ⟨h.1, h.2.1, fun q hq => h.2.2 q ?_⟩
  obtain ⟨j, w⟩ := q
  obtain ⟨u, hu, rfl⟩ := zlsl_mem.mp hq
  by_cases hj1 : j = i + 1
  · subst hj1
    rw [List.getElem?_set_self (by simpa using hi)] at hu
    cases hu
  · rw [List.getElem?_set_ne (fun e => hj1 e.symm)] at hu
    by_cases hj : j = i
    · subst hj
      rw [List.getElem?_set_self (by omega)] at hu
      cases hu
      exact List.mem_cons_self
    · rw [List.getElem?_set_ne (fun e => hj e.symm)] at hu
      refine List.mem_cons_of_mem _ (List.mem_filter.mpr ⟨zlsl_mem.mpr ⟨u, hu, rfl⟩, ?_⟩)
      by_cases hji : j + 1 = i
      · subst hji
        simp only [zos, hu] at ho
        rw [zcv_cat]
        simp at ho
        simp [ho]; omega
      · simp [hj, hji, hj1]
/-! shapes: a block has a kind; a kind has cells; a cell is a row of numbers (type 0 int, 1 byte, 2 boolean; length), an object (class place, fields), or a row of references -/
abbrev zCS : Type := (Nat × Nat) ⊕ ((Nat × List zV) ⊕ Unit)
def zshp (k t o : Nat) : zCS := match k, o with
  | 1, 0 => .inr (.inl (6, [zR (t + 1) 0, zR t 1, zR (t + 5) 0, zR (t + 6) 0, zR (t + 8) 0, zR t 2, zL 0, zL 0]))
  | 1, 1 => .inr (.inr ())
  | 1, 2 => .inl (0, 3)
  | 2, 0 => .inr (.inl (1, [zR (t + 1) 0, zR (t + 2) 0, zR (t + 3) 0]))
  | 3, 0 => .inr (.inl (2, [zR t 1, zR t 2, zR t 3, zR t 4, zR t 5, zR t 6, zI 0]))
  | 3, 1 => .inl (0, 6)
  | 3, _ => .inl (0, 24)
  | 4, 0 => .inr (.inl (3, [zR t 1, zI 0]))
  | 4, _ => .inl (0, 6)
  | 5, 0 => .inr (.inl (0, [zR t 1, zR t 2, zR t 3, zR t 4, zI 0]))
  | 5, _ => .inl (0, 6)
  | 6, 0 => .inr (.inl (5, [zR (t + 1) 0, zR t 1, zI 0, zI 0, zI 0]))
  | 6, _ => .inl (0, 6)
  | 7, 0 => .inr (.inl (4, [zR t 1, zI 0, zI 0, zI 0, zI 0, zI 0]))
  | 7, _ => .inl (1, 150)
  | 8, 0 => .inr (.inl (7, [zR t 1, zR t 2, zR t 3, zR t 4, zL 0, zL 0, zR t 5, zI 0, zI 0, zR t 6, zI 0, zI 0, zR t 7, zR t 8, zI 0, zR t 9, zI 0, zI 0, zI 0, zI 0, zI 0, zR t 10, zR t 11]))
  | 8, 1 => .inl (0, 915)
  | 8, 2 => .inl (0, 1830)
  | 8, 3 => .inl (2, 2)
  | 8, 4 => .inl (0, 3)
  | 8, 5 => .inl (0, 127)
  | 8, 6 => .inl (0, 508)
  | 8, 7 => .inl (0, 4)
  | 8, 8 => .inl (0, 4)
  | 8, 9 => .inl (0, 150)
  | 8, 10 => .inl (0, 153)
  | 8, 11 => .inl (0, 4)
  | _, _ => .inl (0, 0)
def znc (k : Nat) : Nat := match k with
  | 1 => 3 | 2 => 1 | 3 => 7 | 4 => 2 | 5 => 5 | 6 => 2 | 7 => 2 | 8 => 12 | _ => 0
def zar (k o : Nat) : Option (Nat × Nat) := if o < znc k then (match zshp k 0 o with
  | .inl q => some q
  | _ => none) else none
theorem zshp_arr (k t o : Nat) (q : Nat × Nat) (h : zshp k 0 o = .inl q) : zshp k t o = .inl q := by
  unfold zshp at h ⊢
  split at h <;> first | exact h | (simp at h)
theorem zar_at {k o : Nat} {q : Nat × Nat} (h : zar k o = some q) (t : Nat) : o < znc k ∧ zshp k t o = .inl q := by
  unfold zar at h
  split at h
  · rename_i ho
    refine ⟨ho, zshp_arr k t o q ?_⟩
    split at h
    · rename_i q' hq; cases h; exact hq
    · cases h
  · cases h
/-- blocks and their kinds -/
abbrev zBl : Type := List (Nat × Nat)
def zkd : zBl → Nat → Nat
  | [], _ => 0
  | b :: r, t => bif Nat.beq b.1 t then b.2 else zkd r t
theorem zkd_mem : ∀ {bl : zBl} {t k : Nat}, zkd bl t = k → k ≠ 0 → (t, k) ∈ bl
  | [], _, _, h, h0 => absurd h.symm h0
  | b :: r, t, k, h, h0 => by
    unfold zkd at h
    cases hb : Nat.beq b.1 t with
    | true =>
      rw [hb] at h
      have e : b.1 = t := Nat.eq_of_beq_eq_true hb
      have : b = (t, k) := by rw [← e, ← h]; rfl
      rw [this]; exact List.mem_cons_self
    | false => rw [hb] at h; exact List.mem_cons_of_mem _ (zkd_mem h h0)
def zsl (bl : zBl) : List ((Nat × Nat) × zCS) := bl.flatMap (fun b => (List.range (znc b.2)).map (fun o => ((b.1, o), zshp b.2 b.1 o)))
theorem zsl_mem {bl : zBl} {t k o : Nat} (hk : zkd bl t = k) (ho : o < znc k) : ((t, o), zshp k t o) ∈ zsl bl := by
  have h0 : k ≠ 0 := fun e => by rw [e] at ho; exact absurd ho (Nat.not_lt_zero o)
  exact List.mem_flatMap.mpr ⟨(t, k), zkd_mem hk h0, List.mem_map.mpr ⟨o, List.mem_range.mpr ho, rfl⟩⟩
/-- what the cells of images hold -/
def zim (bl : zBl) (ad : Nat × Nat → Nat) (j : Nat) : Option Nat := if zkd bl (10 + 4 * j) = 2 then some (ad (10 + 4 * j, 0)) else none
def zfv (ad : Nat × Nat → Nat) (M : zM) (r : Nat × Nat) (j : Nat) (v : zV) : Value := match v with
  | .inl _ => .int (M.1 r.1 r.2 j)
  | .inr (.inl _) => .long (M.2 r.1 j)
  | v => zcv ad v
def zce (cy : Nat → ClassId) (ad : Nat × Nat → Nat) (bl : zBl) (M : zM) (r : Nat × Nat) (cs : zCS) : va_E := match cs with
  | .inl q => .inl (cy q.1, q.2, .inl (M.1 r.1 r.2))
  | .inr (.inl o) => .inr (o.1, o.2.mapIdx (fun j v => zfv ad M r j v))
  | .inr (.inr _) => .inl (cy 3, 2, .inr (.inr (.inr (.inr (zim bl ad)))))
def zwl (cy : Nat → ClassId) (ad : Nat × Nat → Nat) (bl : zBl) (M : zM) : va_W := (zsl bl).map (fun q => (ad q.1, zce cy ad bl M q.1 q.2))
def zty (cy : Nat → ClassId) : List (ClassId × FieldType) := [(cy 0, .int), (cy 1, .byte), (cy 2, .boolean), (cy 3, .object "ScrapedRoll$Roll")]
theorem zwl_at {cy : Nat → ClassId} {ad : Nat × Nat → Nat} {bl : zBl} {r : Nat × Nat} {cs : zCS} (h : (r, cs) ∈ zsl bl) : ∃ q0 : Nat, (zsl bl)[q0]? = some (r, cs) ∧ ∀ M : zM, (zwl cy ad bl M)[q0]? = some (ad r, zce cy ad bl M r cs) := by
  obtain ⟨q0, hq⟩ := List.getElem?_of_mem h
  exact ⟨q0, hq, fun M => by unfold zwl; rw [List.getElem?_map, hq]; rfl⟩
theorem zwl_addr {cy : Nat → ClassId} {ad : Nat × Nat → Nat} {bl : zBl} {M M' : zM} {k q : Nat} {e : va_E} (h : (zwl cy ad bl M)[k]? = some (q, e)) : ∃ e', (zwl cy ad bl M')[k]? = some (q, e') := by
  unfold zwl at h ⊢
  rw [List.getElem?_map] at h ⊢
  cases hk : (zsl bl)[k]? with
  | none => rw [hk] at h; cases h
  | some x => rw [hk] at h; cases h; exact ⟨_, rfl⟩
theorem zwl_A {cy : Nat → ClassId} {ad : Nat × Nat → Nat} {bl : zBl} {sz : Nat} (M M' : zM) : va_A (zwl cy ad bl M) sz = va_A (zwl cy ad bl M') sz := by
  have one : ∀ M M' : zM, ∀ q, va_A (zwl cy ad bl M) sz q → va_A (zwl cy ad bl M') sz q := by
    intro M M' q h
    rcases h with ⟨k, e, h⟩ | h
    · obtain ⟨e', h'⟩ := zwl_addr (M' := M') h
      exact Or.inl ⟨k, e', h'⟩
    · exact Or.inr h
  funext q
  exact propext ⟨one M M' q, one M' M q⟩
theorem zwl_D {A : Nat → Prop} {cy : Nat → ClassId} {ad : Nat × Nat → Nat} {bl : zBl} {M : zM} (M' : zM) (h : va_D A (zwl cy ad bl M)) : va_D A (zwl cy ad bl M') := by
  refine ⟨fun i j x y hx hy hxy => ?_, fun k q hk => ?_⟩
  · obtain ⟨x1, x2⟩ := x
    obtain ⟨y1, y2⟩ := y
    obtain ⟨e1, h1⟩ := zwl_addr (M' := M) hx
    obtain ⟨e2, h2⟩ := zwl_addr (M' := M) hy
    exact h.1 i j _ _ h1 h2 hxy
  · obtain ⟨q1, q2⟩ := q
    obtain ⟨e1, h1⟩ := zwl_addr (M' := M) hk
    exact h.2 k (q1, e1) h1
/-- distinct cells have distinct addresses, so the references in the list are distinct -/
theorem zsl_inj {A : Nat → Prop} {cy : Nat → ClassId} {ad : Nat × Nat → Nat} {bl : zBl} {M : zM} (h : va_D A (zwl cy ad bl M)) {i j : Nat} {r : Nat × Nat} {c1 c2 : zCS} (hi : (zsl bl)[i]? = some (r, c1)) (hj : (zsl bl)[j]? = some (r, c2)) : i = j := by
  refine h.1 i j (ad r, zce cy ad bl M r c1) (ad r, zce cy ad bl M r c2) ?_ ?_ rfl
  · unfold zwl; rw [List.getElem?_map, hi]; rfl
  · unfold zwl; rw [List.getElem?_map, hj]; rfl
theorem zwl_set {A : Nat → Prop} {cy : Nat → ClassId} {ad : Nat × Nat → Nat} {bl : zBl} {M M' : zM} (h : va_D A (zwl cy ad bl M)) {q0 : Nat} {r : Nat × Nat} {cs : zCS} (hq : (zsl bl)[q0]? = some (r, cs))
    (ho : ∀ (r' : Nat × Nat) (cs' : zCS), r' ≠ r → zce cy ad bl M' r' cs' = zce cy ad bl M r' cs') : (zwl cy ad bl M).set q0 (ad r, zce cy ad bl M' r cs) = zwl cy ad bl M' := by
  apply List.ext_getElem?
  intro k
  by_cases hk : q0 = k
  · subst hk
    have hlt : q0 < (zwl cy ad bl M).length := by unfold zwl; rw [List.length_map]; exact (List.getElem?_eq_some_iff.mp hq).1
    rw [List.getElem?_set_self hlt]
    unfold zwl; rw [List.getElem?_map, hq]; rfl
  · rw [List.getElem?_set_ne hk]
    unfold zwl
    rw [List.getElem?_map, List.getElem?_map]
    cases hx : (zsl bl)[k]? with
    | none => rfl
    | some x =>
      obtain ⟨r', cs'⟩ := x
      have hr : r' ≠ r := fun e => by subst e; exact hk (zsl_inj h hq hx)
      show some (ad r', zce cy ad bl M r' cs') = some (ad r', zce cy ad bl M' r' cs')
      rw [ho r' cs' hr]
theorem zce_mw {cy : Nat → ClassId} {ad : Nat × Nat → Nat} {bl : zBl} {M : zM} {t o : Nat} {f : Nat → Int32} (r' : Nat × Nat) (cs' : zCS) (hr : r' ≠ (t, o)) : zce cy ad bl (zmw M t o f) r' cs' = zce cy ad bl M r' cs' := by
  have e : (zmw M t o f).1 r'.1 r'.2 = M.1 r'.1 r'.2 := by
    unfold zmw
    show (if r'.1 = t ∧ r'.2 = o then f else M.1 r'.1 r'.2) = _
    rw [if_neg (fun h => hr (Prod.ext h.1 h.2))]
  have g : (fun j v => zfv ad (zmw M t o f) r' j v) = (fun j v => zfv ad M r' j v) := by
    funext j v
    unfold zfv
    rcases v with x | x | x | x <;> simp only [e] <;> rfl
  rcases cs' with q | o' | u
  · show (Sum.inl (cy q.1, q.2, Sum.inl ((zmw M t o f).1 r'.1 r'.2)) : va_E) = Sum.inl (cy q.1, q.2, Sum.inl (M.1 r'.1 r'.2))
    rw [e]
  · show (Sum.inr (o'.1, o'.2.mapIdx (fun j v => zfv ad (zmw M t o f) r' j v)) : va_E) = Sum.inr (o'.1, o'.2.mapIdx (fun j v => zfv ad M r' j v))
    rw [g]
  · rfl
theorem zmw_at (M : zM) (t o : Nat) (f : Nat → Int32) : (zmw M t o f).1 t o = f := by simp [zmw]
theorem zce_ml {cy : Nat → ClassId} {ad : Nat × Nat → Nat} {bl : zBl} {M : zM} {t j : Nat} {x : Int64} (r' : Nat × Nat) (cs' : zCS) (hr : r'.1 ≠ t) : zce cy ad bl (zml M t j x) r' cs' = zce cy ad bl M r' cs' := by
  have g : (fun i v => zfv ad (zml M t j x) r' i v) = (fun i v => zfv ad M r' i v) := by
    funext i v
    unfold zfv
    rcases v with y | y | y | y
    · rfl
    · show Value.long (if r'.1 = t ∧ i = j then x else M.2 r'.1 i) = _
      rw [if_neg (fun h => hr h.1)]
    · rfl
    · rfl
  rcases cs' with q | o' | u
  · rfl
  · show (Sum.inr (o'.1, o'.2.mapIdx (fun i v => zfv ad (zml M t j x) r' i v)) : va_E) = Sum.inr (o'.1, o'.2.mapIdx (fun i v => zfv ad M r' i v))
    rw [g]
  · rfl
