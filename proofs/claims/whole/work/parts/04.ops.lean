section AMc
def zAW (p : Program) (l : Launch) (e : Env) (R : Room) (s : State) (m : MethodId) (args : Array Value) (below : List Frame) (meth : Method) (c : Code) (D : va_G) (cy : Nat → ClassId) (A : Nat → Prop) (ad : Nat × Nat → Nat) (bl : zBl) (nL ce so : Nat) (Qm : State → Prop) : zX := fun pc ls st M => ∀ (H : Heap) (locs : List Loc) (arr : Array Slot), ls.length = nL → va_P D vwCl (zwl cy ad bl M) H → va_S A s.heap H locs → lv_has arr nL (zlsl ad ls) → W p l e R s m args below meth c H locs ce so Qm (F0 m pc arr (st.map (zcv ad)))
def zOk (p : Program) (l : Launch) (e : Env) (R : Room) (s : State) (m : MethodId) (args : Array Value) (below : List Frame) (meth : Method) (c : Code) (D : va_G) (cy : Nat → ClassId) (A : Nat → Prop) (ad : Nat × Nat → Nat) (bl : zBl) (nL ce so : Nat) (Qm : State → Prop) (pc : Nat) (T : zT) : Prop := ∀ X : zX, (∀ pc' ls st M, X pc' ls st M → zAW p l e R s m args below meth c D cy A ad bl nL ce so Qm pc' ls st M) → ∀ ls st M, T X ls st M → zAW p l e R s m args below meth c D cy A ad bl nL ce so Qm pc ls st M
/-! the transformers -/
def zt_const (v : zV) (nx : Nat) : zT := fun X ls st M => X nx ls (v :: st) M
def zt_iload (i nx : Nat) : zT := fun X ls st M => match ls[i]? with
  | some (some (.inl x)) => X nx ls (.inl x :: st) M
  | _ => False
def zt_lload (i nx : Nat) : zT := fun X ls st M => match ls[i]? with
  | some (some (.inr (.inl x))) => X nx ls (.inr (.inl x) :: st) M
  | _ => False
def zt_aload (i nx : Nat) : zT := fun X ls st M => match ls[i]? with
  | some (some (.inr (.inr (.inl r)))) => X nx ls (.inr (.inr (.inl r)) :: st) M
  | some (some (.inr (.inr (.inr _)))) => X nx ls (zN :: st) M
  | _ => False
def zt_istore (i nx : Nat) : zT := fun X ls st M => match st with
  | .inl x :: r => (match zos ls i && Nat.blt i ls.length with
    | true => X nx (ls.set i (some (.inl x))) r M
    | false => False)
  | _ => False
def zt_astore (i nx : Nat) : zT := fun X ls st M => match st with
  | .inr (.inr (.inl x)) :: r => (match zos ls i && Nat.blt i ls.length with
    | true => X nx (ls.set i (some (.inr (.inr (.inl x))))) r M
    | false => False)
  | .inr (.inr (.inr _)) :: r => (match zos ls i && Nat.blt i ls.length with
    | true => X nx (ls.set i (some zN)) r M
    | false => False)
  | _ => False
def zt_lstore (i nx : Nat) : zT := fun X ls st M => match st with
  | .inr (.inl x) :: r => (match zos ls i && Nat.blt (i + 1) ls.length with
    | true => X nx ((ls.set i (some (.inr (.inl x)))).set (i + 1) none) r M
    | false => False)
  | _ => False
def zt_iinc (i : Nat) (n : Int32) (nx : Nat) : zT := fun X ls st M => match ls[i]? with
  | some (some (.inl x)) => (match zos ls i && Nat.blt i ls.length with
    | true => X nx (ls.set i (some (.inl (x + n)))) st M
    | false => False)
  | _ => False
def zt_bin (f : Int32 → Int32 → Int32) (nx : Nat) : zT := fun X ls st M => match st with
  | .inl y :: .inl x :: r => X nx ls (.inl (f x y) :: r) M
  | _ => False
def zt_binL (f : Int64 → Int64 → Int64) (nx : Nat) : zT := fun X ls st M => match st with
  | .inr (.inl y) :: .inr (.inl x) :: r => X nx ls (.inr (.inl (f x y)) :: r) M
  | _ => False
def zt_div (f : Int32 → Int32 → Int32) (nx : Nat) : zT := fun X ls st M => match st with
  | .inl y :: .inl x :: r => (¬ y = 0) ∧ X nx ls (.inl (f x y) :: r) M
  | _ => False
def zt_divL (f : Int64 → Int64 → Int64) (nx : Nat) : zT := fun X ls st M => match st with
  | .inr (.inl y) :: .inr (.inl x) :: r => (¬ y = 0) ∧ X nx ls (.inr (.inl (f x y)) :: r) M
  | _ => False
def zt_un (f : Int32 → zV) (nx : Nat) : zT := fun X ls st M => match st with
  | .inl x :: r => X nx ls (f x :: r) M
  | _ => False
def zt_unL (f : Int64 → zV) (nx : Nat) : zT := fun X ls st M => match st with
  | .inr (.inl x) :: r => X nx ls (f x :: r) M
  | _ => False
def zt_lcmp (nx : Nat) : zT := fun X ls st M => match st with
  | .inr (.inl y) :: .inr (.inl x) :: r => X nx ls (.inl (lg_cmp x y) :: r) M
  | _ => False
def zt_if (Pt Pf : Int32 → Prop) (tg nx : Nat) : zT := fun X ls st M => match st with
  | .inl x :: r => (Pt x → X tg ls r M) ∧ (Pf x → X nx ls r M)
  | _ => False
def zt_icmp (Pt Pf : Int32 → Int32 → Prop) (tg nx : Nat) : zT := fun X ls st M => match st with
  | .inl y :: .inl x :: r => (Pt x y → X tg ls r M) ∧ (Pf x y → X nx ls r M)
  | _ => False
def zt_goto (tg : Nat) : zT := fun X ls st M => X tg ls st M
def zt_ifnn (tg nx : Nat) : zT := fun X ls st M => match st with
  | .inr (.inr (.inl _)) :: r => X tg ls r M
  | .inr (.inr (.inr _)) :: r => X nx ls r M
  | _ => False
def zt_dup (nx : Nat) : zT := fun X ls st M => match st with
  | v :: r => (match zc2 v with
    | false => X nx ls (v :: v :: r) M
    | true => False)
  | _ => False
def zt_dup2 (nx : Nat) : zT := fun X ls st M => match st with
  | v :: w :: r => (match zc2 v || zc2 w with
    | false => X nx ls (v :: w :: v :: w :: r) M
    | true => False)
  | _ => False
def zt_pop (nx : Nat) : zT := fun X ls st M => match st with
  | v :: r => (match zc2 v with
    | false => X nx ls r M
    | true => False)
  | _ => False
def zswl (X : zX) (ls : zLS) (r : List zV) (M : zM) (x : Int32) (df : Nat) : List (Int32 × Nat) → Prop
  | [] => X df ls r M
  | q :: cs => (x = q.1 → X q.2 ls r M) ∧ (¬ x = q.1 → zswl X ls r M x df cs)
def zt_sw (cs : List (Int32 × Nat)) (df : Nat) : zT := fun X ls st M => match st with
  | .inl x :: r => zswl X ls r M x df cs
  | _ => False
/-! heap -/
def zt_getR (kd : Nat → Nat) (k dt o nx : Nat) : zT := fun X ls st M => match st with
  | .inr (.inr (.inl (t, 0))) :: r => kd t = k ∧ X nx ls (zR (t + dt) o :: r) M
  | _ => False
def zt_getI (kd : Nat → Nat) (k j nx : Nat) : zT := fun X ls st M => match st with
  | .inr (.inr (.inl (t, 0))) :: r => kd t = k ∧ X nx ls (.inl (M.1 t 0 j) :: r) M
  | _ => False
def zt_getL (kd : Nat → Nat) (k j nx : Nat) : zT := fun X ls st M => match st with
  | .inr (.inr (.inl (t, 0))) :: r => kd t = k ∧ X nx ls (.inr (.inl (M.2 t j)) :: r) M
  | _ => False
def zt_putI (kd : Nat → Nat) (k j nx : Nat) : zT := fun X ls st M => match st with
  | .inl x :: .inr (.inr (.inl (t, 0))) :: r => kd t = k ∧ ∀ M', M' = zmw M t 0 (upd (M.1 t 0) j x) → X nx ls r M'
  | _ => False
def zt_putL (kd : Nat → Nat) (k j nx : Nat) : zT := fun X ls st M => match st with
  | .inr (.inl x) :: .inr (.inr (.inl (t, 0))) :: r => kd t = k ∧ ∀ M', M' = zml M t j x → X nx ls r M'
  | _ => False
/-- an index in a row of the type -/
def zin (k o ty : Nat) (i : Int32) : Prop := ∃ n, zar k o = some (ty, n) ∧ vp_in i n
def znar (ty : Nat) (x : Int32) : Int32 := match ty with
  | 0 => x
  | 1 => vp_nar .byte x
  | _ => vp_nar .boolean x
def zt_ald (kd : Nat → Nat) (ty nx : Nat) : zT := fun X ls st M => match st with
  | .inl i :: .inr (.inr (.inl (t, o))) :: r => zin (kd t) o ty i ∧ X nx ls (.inl (M.1 t o i.toNatClampNeg) :: r) M
  | _ => False
def zt_ast (kd : Nat → Nat) (ty nx : Nat) : zT := fun X ls st M => match st with
  | .inl x :: .inl i :: .inr (.inr (.inl (t, o))) :: r => zin (kd t) o ty i ∧ ∀ M', M' = zmw M t o (upd (M.1 t o) i.toNatClampNeg (znar ty x)) → X nx ls r M'
  | _ => False
def zwt (st : List zV) : Nat := match st with
  | [] => 0
  | v :: r => (bif zc2 v then 2 else 1) + zwt r
theorem zwt_eq (ad : Nat × Nat → Nat) (st : List zV) : ((st.map (zcv ad)).map fun v => v.category).sum = zwt st := by
  induction st with
  | nil => rfl
  | cons v r ih =>
    show (zcv ad v).category + ((r.map (zcv ad)).map fun v => v.category).sum = (bif zc2 v then 2 else 1) + zwt r
    rw [ih, zcv_cat]
    cases zc2 v <;> rfl
def zcpy (M : zM) (t0 o0 t1 o1 sp dp n : Nat) : zM := zmw M t1 o1 (va_cpy (M.1 t0 o0) (M.1 t1 o1) sp dp n)
def zcpok (k0 o0 k1 o1 : Nat) (sp dp n : Int32) : Prop := ∃ n0 n1, zar k0 o0 = some (0, n0) ∧ zar k1 o1 = some (0, n1) ∧ (¬ sp < 0) ∧ (¬ dp < 0) ∧ (¬ n < 0) ∧ sp.toNatClampNeg + n.toNatClampNeg ≤ n0 ∧ dp.toNatClampNeg + n.toNatClampNeg ≤ n1
def zt_copy (kd : Nat → Nat) (nx : Nat) : zT := fun X ls st M => match st with
  | .inl n :: .inl dp :: .inr (.inr (.inl (t1, o1))) :: .inl sp :: .inr (.inr (.inl (t0, o0))) :: r => (match Nat.ble (zwt r) 8 with
    | true => zcpok (kd t0) o0 (kd t1) o1 sp dp n ∧ ∀ M', M' = zcpy M t0 o0 t1 o1 sp.toNatClampNeg dp.toNatClampNeg n.toNatClampNeg → X nx ls r M'
    | false => False)
  | _ => False
def zt_call (kd : Nat → Nat) (sp : zSpec) (n nx : Nat) : zT := fun X ls st M => match Nat.ble n st.length && Nat.ble (zwt (st.drop n)) 8 with
  | true => sp kd (st.take n).reverse M (fun r M' => X nx ls (r.toList ++ st.drop n) M')
  | false => False
def zt_wbin (f : Int32 → Int32 → Int32) (nx : Nat) : zT := fun X ls st M => match st with
  | .inl y :: .inl x :: r => (match Nat.ble (zwt r) 8 with
    | true => X nx ls (.inl (f x y) :: r) M
    | false => False)
  | _ => False
def zt_iret (K : zK) : zT := fun _ _ st M => match st with
  | .inl x :: [] => K (some (.inl x)) M
  | _ => False
def zt_zret (K : zK) : zT := fun _ _ st M => match st with
  | .inl x :: [] => (x = 0 ∨ x = 1) ∧ K (some (.inl x)) M
  | _ => False
def zt_lret (K : zK) : zT := fun _ _ st M => match st with
  | .inr (.inl x) :: [] => K (some (.inr (.inl x))) M
  | _ => False
def zt_vret (K : zK) : zT := fun _ _ st M => match st with
  | [] => K none M
  | _ => False
/-! a method's table, and its run to the cut places -/
abbrev zTab : Type := List (Nat × zT)
def zlk : zTab → Nat → zT
  | [], _ => fun _ _ _ _ => False
  | q :: r, pc => bif Nat.beq q.1 pc then q.2 else zlk r pc
/-- cut places, each with the locals that are forgotten there -/
abbrev zCut : Type := List (Nat × List Nat)
def zcut : zCut → Nat → Option (List Nat)
  | [], _ => none
  | k :: r, pc => bif Nat.beq k.1 pc then some k.2 else zcut r pc
def zfg : List Nat → zLS → zLS
  | [], ls => ls
  | i :: r, ls => zfg r (ls.set i none)
def zrun (tab : zTab) (cut : zCut) : Nat → zX → zX
  | 0, X => X
  | n + 1, X => fun pc ls st M => zlk tab pc (fun pc' ls' st' M' => match zcut cut pc' with
    | some fs => X pc' (zfg fs ls') st' M'
    | none => zrun tab cut n X pc' ls' st' M') ls st M
theorem zfg_len : ∀ (fs : List Nat) (ls : zLS), (zfg fs ls).length = ls.length
  | [], _ => rfl
  | i :: r, ls => by unfold zfg; rw [zfg_len r, List.length_set]
theorem zfg_sub : ∀ (fs : List Nat) (ls : zLS) (j : Nat) (v : zV), (zfg fs ls)[j]? = some (some v) → ls[j]? = some (some v)
  | [], _, _, _, h => h
  | i :: r, ls, j, v, h => by
    unfold zfg at h
    have h1 := zfg_sub r _ j v h
    rw [List.getElem?_set] at h1
    split at h1
    · split at h1 <;> simp at h1
    · exact h1
variable {p : Program} {l : Launch} {e : Env} {R : Room} {s : State} {m : MethodId} {args : Array Value} {below : List Frame} {meth : Method} {c : Code} {D : va_G} {cy : Nat → ClassId} {A : Nat → Prop} {ad : Nat × Nat → Nat} {bl : zBl} {nL ce so : Nat} {Qm : State → Prop} {cc : ByteArray} {pc : Nat}
theorem zlk_ok : ∀ {tab : zTab} (_ : ∀ q ∈ tab, zOk p l e R s m args below meth c D cy A ad bl nL ce so Qm q.1 q.2) (pc : Nat), zOk p l e R s m args below meth c D cy A ad bl nL ce so Qm pc (zlk tab pc)
  | [], _, _ => fun _ _ _ _ _ h => h.elim
  | q :: r, h, pc => by
    unfold zlk
    cases hb : Nat.beq q.1 pc with
    | true =>
      have e0 : q.1 = pc := Nat.eq_of_beq_eq_true hb
      rw [← e0]
      exact h q List.mem_cons_self
    | false => exact zlk_ok (fun x hx => h x (List.mem_cons_of_mem _ hx)) pc
theorem zfg_ok {fs : List Nat} {ls : zLS} {st : List zV} {M : zM} (h : zAW p l e R s m args below meth c D cy A ad bl nL ce so Qm pc (zfg fs ls) st M) : zAW p l e R s m args below meth c D cy A ad bl nL ce so Qm pc ls st M := fun H locs arr hn hP hS hl =>
  h H locs arr (by rw [zfg_len]; exact hn) hP hS ⟨hl.1, hl.2.1, fun q hq => by
    obtain ⟨j, w⟩ := q
    obtain ⟨v, hv, rfl⟩ := zlsl_mem.mp hq
    exact hl.2.2 _ (zlsl_mem.mpr ⟨v, zfg_sub fs ls j v hv, rfl⟩)⟩
theorem zrun_ok {tab : zTab} {cut : zCut} (h : ∀ q ∈ tab, zOk p l e R s m args below meth c D cy A ad bl nL ce so Qm q.1 q.2) {X : zX} (hX : ∀ pc' ls st M, X pc' ls st M → zAW p l e R s m args below meth c D cy A ad bl nL ce so Qm pc' ls st M) : ∀ (n pc : Nat) (ls : zLS) (st : List zV) (M : zM), zrun tab cut n X pc ls st M → zAW p l e R s m args below meth c D cy A ad bl nL ce so Qm pc ls st M
  | 0, pc, ls, st, M, hh => hX pc ls st M hh
  | n + 1, pc, ls, st, M, hh => by
    refine zlk_ok h pc _ (fun pc' ls' st' M' h' => ?_) ls st M hh
    cases hc : zcut cut pc' with
    | some fs => rw [hc] at h'; exact zfg_ok (hX _ _ _ _ h')
    | none => rw [hc] at h'; exact zrun_ok h hX n _ _ _ _ h'
/-! each transformer tells the truth -/
theorem ok_iconst (hx : p.tables.exec = Jvm.exec) (hb : c.code = cc) {n : Int} {v : Int32} (hdg : decode cc pc = .ok (.iconst n, 1)) (hv : Int32.ofInt n = v) : zOk p l e R s m args below meth c D cy A ad bl nL ce so Qm pc (zt_const (zI v) (pc + 1)) :=
  fun _ hX _ _ _ h H locs arr hn hP hS hl => lv_iconst hx hb hdg hv (hX _ _ _ _ h H locs arr hn hP hS hl)
theorem ok_bipush (hx : p.tables.exec = Jvm.exec) (hb : c.code = cc) {n : Int} {v : Int32} (hdg : decode cc pc = .ok (.bipush n, 2)) (hv : (Int8.ofInt n).toInt32 = v) : zOk p l e R s m args below meth c D cy A ad bl nL ce so Qm pc (zt_const (zI v) (pc + 2)) :=
  fun _ hX _ _ _ h H locs arr hn hP hS hl => lv_bipush hx hb hdg hv (hX _ _ _ _ h H locs arr hn hP hS hl)
theorem ok_sipush (hx : p.tables.exec = Jvm.exec) (hb : c.code = cc) {n : Int} {v : Int32} (hdg : decode cc pc = .ok (.sipush n, 3)) (hv : (Int16.ofInt n).toInt32 = v) : zOk p l e R s m args below meth c D cy A ad bl nL ce so Qm pc (zt_const (zI v) (pc + 3)) :=
  fun _ hX _ _ _ h H locs arr hn hP hS hl => lv_sipush hx hb hdg hv (hX _ _ _ _ h H locs arr hn hP hS hl)
theorem ok_lconst (hx : p.tables.exec = Jvm.exec) (hb : c.code = cc) {n : Fin 2} {v : Int64} (hdg : decode cc pc = .ok (.lconst n, 1)) (hv : Int64.ofNat (n : Nat) = v) : zOk p l e R s m args below meth c D cy A ad bl nL ce so Qm pc (zt_const (zL v) (pc + 1)) :=
  fun _ hX _ _ _ h H locs arr hn hP hS hl => lv_lconst hx hb hdg hv (hX _ _ _ _ h H locs arr hn hP hS hl)
theorem ok_ldc (hx : p.tables.exec = Jvm.exec) (hb : c.code = cc) {own : String} {index : Nat} {v : Int32} (hown : s.vm.findClass own = some m.cls) (hc : (Jvm.Cond.constant own index v).before args s = true) (hdg : decode cc pc = .ok (.ldc index, 2)) : zOk p l e R s m args below meth c D cy A ad bl nL ce so Qm pc (zt_const (zI v) (pc + 2)) :=
  fun _ hX _ _ _ h H locs arr hn hP hS hl => lv_ldc hx hb hown hc hdg (hX _ _ _ _ h H locs arr hn hP hS hl)
theorem ok_ldcw (hx : p.tables.exec = Jvm.exec) (hb : c.code = cc) {own : String} {index : Nat} {v : Int32} (hown : s.vm.findClass own = some m.cls) (hc : (Jvm.Cond.constant own index v).before args s = true) (hdg : decode cc pc = .ok (.ldc_w index, 3)) : zOk p l e R s m args below meth c D cy A ad bl nL ce so Qm pc (zt_const (zI v) (pc + 3)) :=
  fun _ hX _ _ _ h H locs arr hn hP hS hl => lv_ldcw hx hb hown hc hdg (hX _ _ _ _ h H locs arr hn hP hS hl)
theorem ok_ldc2 (hx : p.tables.exec = Jvm.exec) (hb : c.code = cc) {own : String} {index : Nat} {v : Int64} (hown : s.vm.findClass own = some m.cls) (hc : (Jvm.Cond.constantLong own index v).before args s = true) (hdg : decode cc pc = .ok (.ldc2_w index, 3)) : zOk p l e R s m args below meth c D cy A ad bl nL ce so Qm pc (zt_const (zL v) (pc + 3)) :=
  fun _ hX _ _ _ h H locs arr hn hP hS hl => lv_ldc2 hx hb hown hc hdg (hX _ _ _ _ h H locs arr hn hP hS hl)
theorem ok_iload_n (hx : p.tables.exec = Jvm.exec) (hb : c.code = cc) {k : Fin 4} {i : Nat} (hi : (k : Nat) = i) (hdg : decode cc pc = .ok (.iload_n k, 1)) : zOk p l e R s m args below meth c D cy A ad bl nL ce so Qm pc (zt_iload i (pc + 1)) := by
  intro X hX ls st M h H locs arr hn hP hS hl
  unfold zt_iload at h
  split at h
  · rename_i x hq
    exact lv_iload_n hx hb hdg hi (zlsl_at hl hq) (hX _ _ _ _ h H locs arr hn hP hS hl)
  · exact h.elim
theorem ok_iload (hx : p.tables.exec = Jvm.exec) (hb : c.code = cc) {i : Nat} (hdg : decode cc pc = .ok (.iload i, 2)) : zOk p l e R s m args below meth c D cy A ad bl nL ce so Qm pc (zt_iload i (pc + 2)) := by
  intro X hX ls st M h H locs arr hn hP hS hl
  unfold zt_iload at h
  split at h
  · rename_i x hq
    exact lv_iload hx hb hdg (zlsl_at hl hq) (hX _ _ _ _ h H locs arr hn hP hS hl)
  · exact h.elim
theorem ok_lload_n (hx : p.tables.exec = Jvm.exec) (hb : c.code = cc) {k : Fin 4} {i : Nat} (hi : (k : Nat) = i) (hdg : decode cc pc = .ok (.lload_n k, 1)) : zOk p l e R s m args below meth c D cy A ad bl nL ce so Qm pc (zt_lload i (pc + 1)) := by
  intro X hX ls st M h H locs arr hn hP hS hl
  unfold zt_lload at h
  split at h
  · rename_i x hq
    exact lv_lload_n hx hb hdg hi (zlsl_at hl hq) (hX _ _ _ _ h H locs arr hn hP hS hl)
  · exact h.elim
theorem ok_lload (hx : p.tables.exec = Jvm.exec) (hb : c.code = cc) {i : Nat} (hdg : decode cc pc = .ok (.lload i, 2)) : zOk p l e R s m args below meth c D cy A ad bl nL ce so Qm pc (zt_lload i (pc + 2)) := by
  intro X hX ls st M h H locs arr hn hP hS hl
  unfold zt_lload at h
  split at h
  · rename_i x hq
    exact lv_lload hx hb hdg (zlsl_at hl hq) (hX _ _ _ _ h H locs arr hn hP hS hl)
  · exact h.elim
theorem ok_aload_n (hx : p.tables.exec = Jvm.exec) (hb : c.code = cc) {k : Fin 4} {i : Nat} (hi : (k : Nat) = i) (hdg : decode cc pc = .ok (.aload_n k, 1)) : zOk p l e R s m args below meth c D cy A ad bl nL ce so Qm pc (zt_aload i (pc + 1)) := by
  intro X hX ls st M h H locs arr hn hP hS hl
  unfold zt_aload at h
  split at h
  · rename_i x hq
    exact lv_aload_n hx hb hdg hi (zlsl_at hl hq) (hX _ _ _ _ h H locs arr hn hP hS hl)
  · rename_i x hq
    exact lv_aload_nN hx hb hdg hi (zlsl_at hl hq) (hX _ _ _ _ h H locs arr hn hP hS hl)
  · exact h.elim
theorem ok_aload (hx : p.tables.exec = Jvm.exec) (hb : c.code = cc) {i : Nat} (hdg : decode cc pc = .ok (.aload i, 2)) : zOk p l e R s m args below meth c D cy A ad bl nL ce so Qm pc (zt_aload i (pc + 2)) := by
  intro X hX ls st M h H locs arr hn hP hS hl
  unfold zt_aload at h
  split at h
  · rename_i x hq
    exact lv_aload hx hb hdg (zlsl_at hl hq) (hX _ _ _ _ h H locs arr hn hP hS hl)
  · rename_i x hq
    exact lv_aloadN hx hb hdg (zlsl_at hl hq) (hX _ _ _ _ h H locs arr hn hP hS hl)
  · exact h.elim
theorem zbl {b : Bool} {i n : Nat} (h : (b && Nat.blt i n) = true) : b = true ∧ i < n := by
  rw [Bool.and_eq_true] at h
  exact ⟨h.1, Nat.blt_eq.mp h.2⟩
theorem ok_istore_n (hx : p.tables.exec = Jvm.exec) (hb : c.code = cc) {k : Fin 4} {i : Nat} (hi : (k : Nat) = i) (hdg : decode cc pc = .ok (.istore_n k, 1)) : zOk p l e R s m args below meth c D cy A ad bl nL ce so Qm pc (zt_istore i (pc + 1)) := by
  intro X hX ls st M h H locs arr hn hP hS hl
  unfold zt_istore at h
  split at h
  · split at h
    · rename_i hq
      obtain ⟨h1, h2⟩ := zbl hq
      exact lv_istore_n hx hb hdg hi hl (hn ▸ h2) rfl (fun ls' hl' => hX _ _ _ _ h H locs ls' (by rw [List.length_set]; exact hn) hP hS (zst1 h1 h2 hl'))
    · exact h.elim
  · exact h.elim
theorem ok_istore (hx : p.tables.exec = Jvm.exec) (hb : c.code = cc) {i : Nat} (hdg : decode cc pc = .ok (.istore i, 2)) : zOk p l e R s m args below meth c D cy A ad bl nL ce so Qm pc (zt_istore i (pc + 2)) := by
  intro X hX ls st M h H locs arr hn hP hS hl
  unfold zt_istore at h
  split at h
  · split at h
    · rename_i hq
      obtain ⟨h1, h2⟩ := zbl hq
      exact lv_istore hx hb hdg hl (hn ▸ h2) rfl (fun ls' hl' => hX _ _ _ _ h H locs ls' (by rw [List.length_set]; exact hn) hP hS (zst1 h1 h2 hl'))
    · exact h.elim
  · exact h.elim
theorem ok_astore_n (hx : p.tables.exec = Jvm.exec) (hb : c.code = cc) {k : Fin 4} {i : Nat} (hi : (k : Nat) = i) (hdg : decode cc pc = .ok (.astore_n k, 1)) : zOk p l e R s m args below meth c D cy A ad bl nL ce so Qm pc (zt_astore i (pc + 1)) := by
  intro X hX ls st M h H locs arr hn hP hS hl
  unfold zt_astore at h
  split at h
  · split at h
    · rename_i hq
      obtain ⟨h1, h2⟩ := zbl hq
      exact lv_astore_n hx hb hdg hi hl (hn ▸ h2) rfl (fun ls' hl' => hX _ _ _ _ h H locs ls' (by rw [List.length_set]; exact hn) hP hS (zst1 h1 h2 hl'))
    · exact h.elim
  · split at h
    · rename_i hq
      obtain ⟨h1, h2⟩ := zbl hq
      exact lv_astore_nN hx hb hdg hi hl (hn ▸ h2) rfl (fun ls' hl' => hX _ _ _ _ h H locs ls' (by rw [List.length_set]; exact hn) hP hS (zst1 h1 h2 hl'))
    · exact h.elim
  · exact h.elim
theorem ok_lstore_n (hx : p.tables.exec = Jvm.exec) (hb : c.code = cc) {k : Fin 4} {i : Nat} (hi : (k : Nat) = i) (hdg : decode cc pc = .ok (.lstore_n k, 1)) : zOk p l e R s m args below meth c D cy A ad bl nL ce so Qm pc (zt_lstore i (pc + 1)) := by
  intro X hX ls st M h H locs arr hn hP hS hl
  unfold zt_lstore at h
  split at h
  · split at h
    · rename_i hq
      obtain ⟨h1, h2⟩ := zbl hq
      exact lv_lstore_n hx hb hdg hi hl (hn ▸ h2) rfl (fun ls' hl' => hX _ _ _ _ h H locs ls' (by rw [List.length_set, List.length_set]; exact hn) hP hS (zst2 h1 h2 hl'))
    · exact h.elim
  · exact h.elim
theorem ok_lstore (hx : p.tables.exec = Jvm.exec) (hb : c.code = cc) {i : Nat} (hdg : decode cc pc = .ok (.lstore i, 2)) : zOk p l e R s m args below meth c D cy A ad bl nL ce so Qm pc (zt_lstore i (pc + 2)) := by
  intro X hX ls st M h H locs arr hn hP hS hl
  unfold zt_lstore at h
  split at h
  · split at h
    · rename_i hq
      obtain ⟨h1, h2⟩ := zbl hq
      exact lv_lstore hx hb hdg hl (hn ▸ h2) rfl (fun ls' hl' => hX _ _ _ _ h H locs ls' (by rw [List.length_set, List.length_set]; exact hn) hP hS (zst2 h1 h2 hl'))
    · exact h.elim
  · exact h.elim
theorem ok_iinc (hx : p.tables.exec = Jvm.exec) (hb : c.code = cc) {i : Nat} {n : Int} {n' : Int32} (hdg : decode cc pc = .ok (.iinc i n, 3)) (hv : Int32.ofInt n = n') : zOk p l e R s m args below meth c D cy A ad bl nL ce so Qm pc (zt_iinc i n' (pc + 3)) := by
  intro X hX ls st M h H locs arr hn hP hS hl
  unfold zt_iinc at h
  split at h
  · rename_i x hg
    split at h
    · rename_i hq
      obtain ⟨h1, h2⟩ := zbl hq
      obtain ⟨k, hk⟩ := zlsl_ix (ad := ad) hg
      exact lv_iinc hx hb hdg hl hk (by rw [hv]) (hn ▸ h2) rfl (fun ls' hl' => hX _ _ _ _ h H locs ls' (by rw [List.length_set]; exact hn) hP hS (zst1 (v := .inl (x + n')) h1 h2 hl'))
    · exact h.elim
  · exact h.elim
theorem ok_iadd (hx : p.tables.exec = Jvm.exec) (hb : c.code = cc) (hdg : decode cc pc = .ok (.iadd, 1)) : zOk p l e R s m args below meth c D cy A ad bl nL ce so Qm pc (zt_bin (fun x y => x + y) (pc + 1)) := by
  intro X hX ls st M h H locs arr hn hP hS hl
  unfold zt_bin at h
  split at h
  · exact lv_iadd hx hb hdg (hX _ _ _ _ h H locs arr hn hP hS hl)
  · exact h.elim
theorem ok_isub (hx : p.tables.exec = Jvm.exec) (hb : c.code = cc) (hdg : decode cc pc = .ok (.isub, 1)) : zOk p l e R s m args below meth c D cy A ad bl nL ce so Qm pc (zt_bin (fun x y => x - y) (pc + 1)) := by
  intro X hX ls st M h H locs arr hn hP hS hl
  unfold zt_bin at h
  split at h
  · exact lv_isub hx hb hdg (hX _ _ _ _ h H locs arr hn hP hS hl)
  · exact h.elim
theorem ok_imul (hx : p.tables.exec = Jvm.exec) (hb : c.code = cc) (hdg : decode cc pc = .ok (.imul, 1)) : zOk p l e R s m args below meth c D cy A ad bl nL ce so Qm pc (zt_bin (fun x y => x * y) (pc + 1)) := by
  intro X hX ls st M h H locs arr hn hP hS hl
  unfold zt_bin at h
  split at h
  · exact lv_imul hx hb hdg (hX _ _ _ _ h H locs arr hn hP hS hl)
  · exact h.elim
theorem ok_iand (hx : p.tables.exec = Jvm.exec) (hb : c.code = cc) (hdg : decode cc pc = .ok (.iand, 1)) : zOk p l e R s m args below meth c D cy A ad bl nL ce so Qm pc (zt_bin (fun x y => x &&& y) (pc + 1)) := by
  intro X hX ls st M h H locs arr hn hP hS hl
  unfold zt_bin at h
  split at h
  · exact lv_iand hx hb hdg (hX _ _ _ _ h H locs arr hn hP hS hl)
  · exact h.elim
theorem ok_ior (hx : p.tables.exec = Jvm.exec) (hb : c.code = cc) (hdg : decode cc pc = .ok (.ior, 1)) : zOk p l e R s m args below meth c D cy A ad bl nL ce so Qm pc (zt_bin (fun x y => x ||| y) (pc + 1)) := by
  intro X hX ls st M h H locs arr hn hP hS hl
  unfold zt_bin at h
  split at h
  · exact lv_ior hx hb hdg (hX _ _ _ _ h H locs arr hn hP hS hl)
  · exact h.elim
theorem ok_ishl (hx : p.tables.exec = Jvm.exec) (hb : c.code = cc) (hdg : decode cc pc = .ok (.ishl, 1)) : zOk p l e R s m args below meth c D cy A ad bl nL ce so Qm pc (zt_bin (fun x y => x <<< (y &&& 31)) (pc + 1)) := by
  intro X hX ls st M h H locs arr hn hP hS hl
  unfold zt_bin at h
  split at h
  · exact lv_ishl hx hb hdg (hX _ _ _ _ h H locs arr hn hP hS hl)
  · exact h.elim
theorem ok_ishr (hx : p.tables.exec = Jvm.exec) (hb : c.code = cc) (hdg : decode cc pc = .ok (.ishr, 1)) : zOk p l e R s m args below meth c D cy A ad bl nL ce so Qm pc (zt_bin (fun x y => x >>> (y &&& 31)) (pc + 1)) := by
  intro X hX ls st M h H locs arr hn hP hS hl
  unfold zt_bin at h
  split at h
  · exact lv_ishr hx hb hdg (hX _ _ _ _ h H locs arr hn hP hS hl)
  · exact h.elim
theorem ok_idiv (hx : p.tables.exec = Jvm.exec) (hb : c.code = cc) (hdg : decode cc pc = .ok (.idiv, 1)) : zOk p l e R s m args below meth c D cy A ad bl nL ce so Qm pc (zt_div (fun x y => x / y) (pc + 1)) := by
  intro X hX ls st M h H locs arr hn hP hS hl
  unfold zt_div at h
  split at h
  · exact lv_idiv hx hb hdg h.1 (hX _ _ _ _ h.2 H locs arr hn hP hS hl)
  · exact h.elim
theorem ok_irem (hx : p.tables.exec = Jvm.exec) (hb : c.code = cc) (hdg : decode cc pc = .ok (.irem, 1)) : zOk p l e R s m args below meth c D cy A ad bl nL ce so Qm pc (zt_div (fun x y => x - x / y * y) (pc + 1)) := by
  intro X hX ls st M h H locs arr hn hP hS hl
  unfold zt_div at h
  split at h
  · exact lv_irem hx hb hdg h.1 (hX _ _ _ _ h.2 H locs arr hn hP hS hl)
  · exact h.elim
theorem ok_ladd (hx : p.tables.exec = Jvm.exec) (hb : c.code = cc) (hdg : decode cc pc = .ok (.ladd, 1)) : zOk p l e R s m args below meth c D cy A ad bl nL ce so Qm pc (zt_binL (fun x y => x + y) (pc + 1)) := by
  intro X hX ls st M h H locs arr hn hP hS hl
  unfold zt_binL at h
  split at h
  · exact lv_ladd hx hb hdg (hX _ _ _ _ h H locs arr hn hP hS hl)
  · exact h.elim
theorem ok_lsub (hx : p.tables.exec = Jvm.exec) (hb : c.code = cc) (hdg : decode cc pc = .ok (.lsub, 1)) : zOk p l e R s m args below meth c D cy A ad bl nL ce so Qm pc (zt_binL (fun x y => x - y) (pc + 1)) := by
  intro X hX ls st M h H locs arr hn hP hS hl
  unfold zt_binL at h
  split at h
  · exact lv_lsub hx hb hdg (hX _ _ _ _ h H locs arr hn hP hS hl)
  · exact h.elim
theorem ok_lmul (hx : p.tables.exec = Jvm.exec) (hb : c.code = cc) (hdg : decode cc pc = .ok (.lmul, 1)) : zOk p l e R s m args below meth c D cy A ad bl nL ce so Qm pc (zt_binL (fun x y => x * y) (pc + 1)) := by
  intro X hX ls st M h H locs arr hn hP hS hl
  unfold zt_binL at h
  split at h
  · exact lv_lmul hx hb hdg (hX _ _ _ _ h H locs arr hn hP hS hl)
  · exact h.elim
theorem ok_ldiv (hx : p.tables.exec = Jvm.exec) (hb : c.code = cc) (hdg : decode cc pc = .ok (.ldiv, 1)) : zOk p l e R s m args below meth c D cy A ad bl nL ce so Qm pc (zt_divL (fun x y => x / y) (pc + 1)) := by
  intro X hX ls st M h H locs arr hn hP hS hl
  unfold zt_divL at h
  split at h
  · exact lv_ldiv hx hb hdg h.1 (hX _ _ _ _ h.2 H locs arr hn hP hS hl)
  · exact h.elim
theorem ok_lrem (hx : p.tables.exec = Jvm.exec) (hb : c.code = cc) (hdg : decode cc pc = .ok (.lrem, 1)) : zOk p l e R s m args below meth c D cy A ad bl nL ce so Qm pc (zt_divL (fun x y => x - x / y * y) (pc + 1)) := by
  intro X hX ls st M h H locs arr hn hP hS hl
  unfold zt_divL at h
  split at h
  · exact lv_lrem hx hb hdg h.1 (hX _ _ _ _ h.2 H locs arr hn hP hS hl)
  · exact h.elim
theorem ok_iushr (hx : p.tables.exec = Jvm.exec) (hb : c.code = cc) (hdg : decode cc pc = .ok (.iushr, 1)) : zOk p l e R s m args below meth c D cy A ad bl nL ce so Qm pc (zt_bin (fun x y => (x.toUInt32 >>> (y.toUInt32 &&& Int32.toUInt32 31)).toInt32) (pc + 1)) := by
  intro X hX ls st M h H locs arr hn hP hS hl
  unfold zt_bin at h
  split at h
  · exact lv_iushr hx hb hdg rfl (hX _ _ _ _ h H locs arr hn hP hS hl)
  · exact h.elim
theorem ok_i2l (hx : p.tables.exec = Jvm.exec) (hb : c.code = cc) (hdg : decode cc pc = .ok (.i2l, 1)) : zOk p l e R s m args below meth c D cy A ad bl nL ce so Qm pc (zt_un (fun x => zL x.toInt64) (pc + 1)) := by
  intro X hX ls st M h H locs arr hn hP hS hl
  unfold zt_un at h
  split at h
  · exact lv_i2l hx hb hdg rfl (hX _ _ _ _ h H locs arr hn hP hS hl)
  · exact h.elim
theorem ok_i2b (hx : p.tables.exec = Jvm.exec) (hb : c.code = cc) (hdg : decode cc pc = .ok (.i2b, 1)) : zOk p l e R s m args below meth c D cy A ad bl nL ce so Qm pc (zt_un (fun x => zI x.toInt8.toInt32) (pc + 1)) := by
  intro X hX ls st M h H locs arr hn hP hS hl
  unfold zt_un at h
  split at h
  · exact lv_i2b hx hb hdg rfl (hX _ _ _ _ h H locs arr hn hP hS hl)
  · exact h.elim
theorem ok_l2i (hx : p.tables.exec = Jvm.exec) (hb : c.code = cc) (hdg : decode cc pc = .ok (.l2i, 1)) : zOk p l e R s m args below meth c D cy A ad bl nL ce so Qm pc (zt_unL (fun x => zI x.toInt32) (pc + 1)) := by
  intro X hX ls st M h H locs arr hn hP hS hl
  unfold zt_unL at h
  split at h
  · exact lv_l2i hx hb hdg rfl (hX _ _ _ _ h H locs arr hn hP hS hl)
  · exact h.elim
theorem ok_lcmp (hx : p.tables.exec = Jvm.exec) (hb : c.code = cc) (hdg : decode cc pc = .ok (.lcmp, 1)) : zOk p l e R s m args below meth c D cy A ad bl nL ce so Qm pc (zt_lcmp (pc + 1)) := by
  intro X hX ls st M h H locs arr hn hP hS hl
  unfold zt_lcmp at h
  split at h
  · exact W.lcmp hx hb hdg (hX _ _ _ _ h H locs arr hn hP hS hl)
  · exact h.elim
theorem ok_if_eq (hx : p.tables.exec = Jvm.exec) (hb : c.code = cc) {off : Int} {tg : Nat} (hdg : decode cc pc = .ok (.ifCond .eq off, 3)) (ht : (pc : Int) + off = (tg : Int)) : zOk p l e R s m args below meth c D cy A ad bl nL ce so Qm pc (zt_if (fun x => x = 0) (fun x => ¬ x = 0) tg (pc + 3)) := by
  intro X hX ls st M h H locs arr hn hP hS hl
  unfold zt_if at h
  split at h
  · exact lv_if_eq hx hb hdg ht (fun q => hX _ _ _ _ (h.1 q) H locs arr hn hP hS hl) (fun q => hX _ _ _ _ (h.2 q) H locs arr hn hP hS hl)
  · exact h.elim
theorem ok_if_ne (hx : p.tables.exec = Jvm.exec) (hb : c.code = cc) {off : Int} {tg : Nat} (hdg : decode cc pc = .ok (.ifCond .ne off, 3)) (ht : (pc : Int) + off = (tg : Int)) : zOk p l e R s m args below meth c D cy A ad bl nL ce so Qm pc (zt_if (fun x => ¬ x = 0) (fun x => x = 0) tg (pc + 3)) := by
  intro X hX ls st M h H locs arr hn hP hS hl
  unfold zt_if at h
  split at h
  · exact lv_if_ne hx hb hdg ht (fun q => hX _ _ _ _ (h.1 q) H locs arr hn hP hS hl) (fun q => hX _ _ _ _ (h.2 q) H locs arr hn hP hS hl)
  · exact h.elim
theorem ok_if_lt (hx : p.tables.exec = Jvm.exec) (hb : c.code = cc) {off : Int} {tg : Nat} (hdg : decode cc pc = .ok (.ifCond .lt off, 3)) (ht : (pc : Int) + off = (tg : Int)) : zOk p l e R s m args below meth c D cy A ad bl nL ce so Qm pc (zt_if (fun x => x < 0) (fun x => ¬ x < 0) tg (pc + 3)) := by
  intro X hX ls st M h H locs arr hn hP hS hl
  unfold zt_if at h
  split at h
  · exact lv_if_lt hx hb hdg ht (fun q => hX _ _ _ _ (h.1 q) H locs arr hn hP hS hl) (fun q => hX _ _ _ _ (h.2 q) H locs arr hn hP hS hl)
  · exact h.elim
theorem ok_if_ge (hx : p.tables.exec = Jvm.exec) (hb : c.code = cc) {off : Int} {tg : Nat} (hdg : decode cc pc = .ok (.ifCond .ge off, 3)) (ht : (pc : Int) + off = (tg : Int)) : zOk p l e R s m args below meth c D cy A ad bl nL ce so Qm pc (zt_if (fun x => 0 ≤ x) (fun x => ¬ 0 ≤ x) tg (pc + 3)) := by
  intro X hX ls st M h H locs arr hn hP hS hl
  unfold zt_if at h
  split at h
  · exact lv_if_ge hx hb hdg ht (fun q => hX _ _ _ _ (h.1 q) H locs arr hn hP hS hl) (fun q => hX _ _ _ _ (h.2 q) H locs arr hn hP hS hl)
  · exact h.elim
theorem ok_if_gt (hx : p.tables.exec = Jvm.exec) (hb : c.code = cc) {off : Int} {tg : Nat} (hdg : decode cc pc = .ok (.ifCond .gt off, 3)) (ht : (pc : Int) + off = (tg : Int)) : zOk p l e R s m args below meth c D cy A ad bl nL ce so Qm pc (zt_if (fun x => 0 < x) (fun x => ¬ 0 < x) tg (pc + 3)) := by
  intro X hX ls st M h H locs arr hn hP hS hl
  unfold zt_if at h
  split at h
  · exact lv_if_gt hx hb hdg ht (fun q => hX _ _ _ _ (h.1 q) H locs arr hn hP hS hl) (fun q => hX _ _ _ _ (h.2 q) H locs arr hn hP hS hl)
  · exact h.elim
theorem ok_if_le (hx : p.tables.exec = Jvm.exec) (hb : c.code = cc) {off : Int} {tg : Nat} (hdg : decode cc pc = .ok (.ifCond .le off, 3)) (ht : (pc : Int) + off = (tg : Int)) : zOk p l e R s m args below meth c D cy A ad bl nL ce so Qm pc (zt_if (fun x => x ≤ 0) (fun x => ¬ x ≤ 0) tg (pc + 3)) := by
  intro X hX ls st M h H locs arr hn hP hS hl
  unfold zt_if at h
  split at h
  · exact lv_if_le hx hb hdg ht (fun q => hX _ _ _ _ (h.1 q) H locs arr hn hP hS hl) (fun q => hX _ _ _ _ (h.2 q) H locs arr hn hP hS hl)
  · exact h.elim
theorem ok_icmp_eq (hx : p.tables.exec = Jvm.exec) (hb : c.code = cc) {off : Int} {tg : Nat} (hdg : decode cc pc = .ok (.if_icmp .eq off, 3)) (ht : (pc : Int) + off = (tg : Int)) : zOk p l e R s m args below meth c D cy A ad bl nL ce so Qm pc (zt_icmp (fun x y => x = y) (fun x y => ¬ x = y) tg (pc + 3)) := by
  intro X hX ls st M h H locs arr hn hP hS hl
  unfold zt_icmp at h
  split at h
  · exact lv_icmp_eq hx hb hdg ht (fun q => hX _ _ _ _ (h.1 q) H locs arr hn hP hS hl) (fun q => hX _ _ _ _ (h.2 q) H locs arr hn hP hS hl)
  · exact h.elim
theorem ok_icmp_ne (hx : p.tables.exec = Jvm.exec) (hb : c.code = cc) {off : Int} {tg : Nat} (hdg : decode cc pc = .ok (.if_icmp .ne off, 3)) (ht : (pc : Int) + off = (tg : Int)) : zOk p l e R s m args below meth c D cy A ad bl nL ce so Qm pc (zt_icmp (fun x y => ¬ x = y) (fun x y => x = y) tg (pc + 3)) := by
  intro X hX ls st M h H locs arr hn hP hS hl
  unfold zt_icmp at h
  split at h
  · exact lv_icmp_ne hx hb hdg ht (fun q => hX _ _ _ _ (h.1 q) H locs arr hn hP hS hl) (fun q => hX _ _ _ _ (h.2 q) H locs arr hn hP hS hl)
  · exact h.elim
theorem ok_icmp_lt (hx : p.tables.exec = Jvm.exec) (hb : c.code = cc) {off : Int} {tg : Nat} (hdg : decode cc pc = .ok (.if_icmp .lt off, 3)) (ht : (pc : Int) + off = (tg : Int)) : zOk p l e R s m args below meth c D cy A ad bl nL ce so Qm pc (zt_icmp (fun x y => x < y) (fun x y => ¬ x < y) tg (pc + 3)) := by
  intro X hX ls st M h H locs arr hn hP hS hl
  unfold zt_icmp at h
  split at h
  · exact lv_icmp_lt hx hb hdg ht (fun q => hX _ _ _ _ (h.1 q) H locs arr hn hP hS hl) (fun q => hX _ _ _ _ (h.2 q) H locs arr hn hP hS hl)
  · exact h.elim
theorem ok_icmp_ge (hx : p.tables.exec = Jvm.exec) (hb : c.code = cc) {off : Int} {tg : Nat} (hdg : decode cc pc = .ok (.if_icmp .ge off, 3)) (ht : (pc : Int) + off = (tg : Int)) : zOk p l e R s m args below meth c D cy A ad bl nL ce so Qm pc (zt_icmp (fun x y => y ≤ x) (fun x y => ¬ y ≤ x) tg (pc + 3)) := by
  intro X hX ls st M h H locs arr hn hP hS hl
  unfold zt_icmp at h
  split at h
  · exact lv_icmp_ge hx hb hdg ht (fun q => hX _ _ _ _ (h.1 q) H locs arr hn hP hS hl) (fun q => hX _ _ _ _ (h.2 q) H locs arr hn hP hS hl)
  · exact h.elim
theorem ok_icmp_gt (hx : p.tables.exec = Jvm.exec) (hb : c.code = cc) {off : Int} {tg : Nat} (hdg : decode cc pc = .ok (.if_icmp .gt off, 3)) (ht : (pc : Int) + off = (tg : Int)) : zOk p l e R s m args below meth c D cy A ad bl nL ce so Qm pc (zt_icmp (fun x y => y < x) (fun x y => ¬ y < x) tg (pc + 3)) := by
  intro X hX ls st M h H locs arr hn hP hS hl
  unfold zt_icmp at h
  split at h
  · exact lv_icmp_gt hx hb hdg ht (fun q => hX _ _ _ _ (h.1 q) H locs arr hn hP hS hl) (fun q => hX _ _ _ _ (h.2 q) H locs arr hn hP hS hl)
  · exact h.elim
theorem ok_icmp_le (hx : p.tables.exec = Jvm.exec) (hb : c.code = cc) {off : Int} {tg : Nat} (hdg : decode cc pc = .ok (.if_icmp .le off, 3)) (ht : (pc : Int) + off = (tg : Int)) : zOk p l e R s m args below meth c D cy A ad bl nL ce so Qm pc (zt_icmp (fun x y => x ≤ y) (fun x y => ¬ x ≤ y) tg (pc + 3)) := by
  intro X hX ls st M h H locs arr hn hP hS hl
  unfold zt_icmp at h
  split at h
  · exact lv_icmp_le hx hb hdg ht (fun q => hX _ _ _ _ (h.1 q) H locs arr hn hP hS hl) (fun q => hX _ _ _ _ (h.2 q) H locs arr hn hP hS hl)
  · exact h.elim
theorem ok_goto (hx : p.tables.exec = Jvm.exec) (hb : c.code = cc) {off : Int} {tg : Nat} (hdg : decode cc pc = .ok (.goto off, 3)) (ht : (pc : Int) + off = (tg : Int)) : zOk p l e R s m args below meth c D cy A ad bl nL ce so Qm pc (zt_goto tg) :=
  fun _ hX _ _ _ h H locs arr hn hP hS hl => lv_goto hx hb hdg ht (hX _ _ _ _ h H locs arr hn hP hS hl)
theorem ok_ifnonnull (hx : p.tables.exec = Jvm.exec) (hb : c.code = cc) {off : Int} {tg : Nat} (hdg : decode cc pc = .ok (.ifnonnull off, 3)) (ht : (pc : Int) + off = (tg : Int)) : zOk p l e R s m args below meth c D cy A ad bl nL ce so Qm pc (zt_ifnn tg (pc + 3)) := by
  intro X hX ls st M h H locs arr hn hP hS hl
  unfold zt_ifnn at h
  split at h
  · exact lv_ifnonnull hx hb hdg ht (hX _ _ _ _ h H locs arr hn hP hS hl)
  · exact lv_ifnonnullN hx hb hdg (hX _ _ _ _ h H locs arr hn hP hS hl)
  · exact h.elim
theorem zcat1 {v : zV} (h : zc2 v = false) : (zcv ad v).category = 1 := by rw [zcv_cat, h]; rfl
theorem ok_dup (hx : p.tables.exec = Jvm.exec) (hb : c.code = cc) (hdg : decode cc pc = .ok (.dup, 1)) : zOk p l e R s m args below meth c D cy A ad bl nL ce so Qm pc (zt_dup (pc + 1)) := by
  intro X hX ls st M h H locs arr hn hP hS hl
  unfold zt_dup at h
  split at h
  · split at h
    · rename_i hq
      exact lv_dup hx hb hdg (zcat1 hq) (hX _ _ _ _ h H locs arr hn hP hS hl)
    · exact h.elim
  · exact h.elim
theorem ok_pop (hx : p.tables.exec = Jvm.exec) (hb : c.code = cc) (hdg : decode cc pc = .ok (.pop, 1)) : zOk p l e R s m args below meth c D cy A ad bl nL ce so Qm pc (zt_pop (pc + 1)) := by
  intro X hX ls st M h H locs arr hn hP hS hl
  unfold zt_pop at h
  split at h
  · split at h
    · rename_i hq
      exact lv_pop hx hb hdg (zcat1 hq) (hX _ _ _ _ h H locs arr hn hP hS hl)
    · exact h.elim
  · exact h.elim
theorem ok_dup2 (hx : p.tables.exec = Jvm.exec) (hb : c.code = cc) (hdg : decode cc pc = .ok (.dup2, 1)) : zOk p l e R s m args below meth c D cy A ad bl nL ce so Qm pc (zt_dup2 (pc + 1)) := by
  intro X hX ls st M h H locs arr hn hP hS hl
  unfold zt_dup2 at h
  split at h
  · split at h
    · rename_i hq
      rw [Bool.or_eq_false_iff] at hq
      exact lv_dup2_11 hx hb hdg (zcat1 hq.1) (zcat1 hq.2) (hX _ _ _ _ h H locs arr hn hP hS hl)
    · exact h.elim
  · exact h.elim
end AMc
