
/-- bits of a small set -/
def bit6 (n : Int) (k : Nat) : Bool := decide (n / 2 ^ k % 2 = 1)
def pc6 (n : Int) : Int := zsm (fun k => b2i (bit6 n k)) 6
def yes6 (n : Int) (p : Nat → Bool) : Int := zsm (fun k => b2i (bit6 n k && p k)) 6
def grt6 (n : Int) (p : Nat → Bool) : Int := if pc6 n - yes6 n p < yes6 n p then yes6 n p else pc6 n - yes6 n p
def isArg (gr : Int → Int) (lo hi v : Int) : Prop := (lo ≤ v ∧ v ≤ hi) ∧ (∀ y, lo ≤ y → y ≤ hi → gr v ≤ gr y) ∧ (∀ y, lo ≤ y → y < v → gr v < gr y)
def sk_lk (a : Sk) (n c i y : Int) : Int := grt6 n (fun k => match sk_at a c i with
  | some l => bnd k l (sk_at a c (i + 1)) y
  | none => false)
def hi99 (y : Int) : Int := if y + 99 < 999 then y + 99 else 999
/-- digests -/
def mx (h : Int64) (z : Int) : Int64 := 31 * h + Int64.ofInt z
def mxL (h : Int64) (l : Ly) : Int64 := mx (mx (mx (mx (mx h l.1) l.2.1) l.2.2.1) l.2.2.2.1) l.2.2.2.2
def zit (f : Nat → Int64 → Int64) : Nat → Int64 → Int64
  | 0, h => h
  | n + 1, h => f n (zit f n h)
def sk_mix (a : Sk) (h : Int64) : Int64 := zit (fun c h => (a.1 c).foldl mxL (mx h ((a.1 c).length : Int))) 6 h
def sp_J6_bitCount_0f7a4 : zSpec := fun kd as M K => match as with
  | [.inl x] => (0 ≤ x.toInt ∧ x.toInt < 64) ∧ ∀ v : Int32, (v.toInt = pc6 x.toInt) → K (some (.inl v)) M
  | _ => False
theorem dd_J6_bitCount_0f7a4_0 : decode cJ6_bitCount_0f7a4 0 = .ok (.iload_n 0, 1) := by decide +kernel
theorem dd_J6_bitCount_0f7a4_1 : decode cJ6_bitCount_0f7a4 1 = .ok (.iload_n 0, 1) := by decide +kernel
theorem dd_J6_bitCount_0f7a4_2 : decode cJ6_bitCount_0f7a4 2 = .ok (.iconst 1, 1) := by decide +kernel
theorem dd_J6_bitCount_0f7a4_3 : decode cJ6_bitCount_0f7a4 3 = .ok (.iushr, 1) := by decide +kernel
theorem dd_J6_bitCount_0f7a4_4 : decode cJ6_bitCount_0f7a4 4 = .ok (.ldc_w 265, 3) := by decide +kernel
theorem dd_J6_bitCount_0f7a4_7 : decode cJ6_bitCount_0f7a4 7 = .ok (.iand, 1) := by decide +kernel
theorem dd_J6_bitCount_0f7a4_8 : decode cJ6_bitCount_0f7a4 8 = .ok (.isub, 1) := by decide +kernel
theorem dd_J6_bitCount_0f7a4_9 : decode cJ6_bitCount_0f7a4 9 = .ok (.istore_n 0, 1) := by decide +kernel
theorem dd_J6_bitCount_0f7a4_10 : decode cJ6_bitCount_0f7a4 10 = .ok (.iload_n 0, 1) := by decide +kernel
theorem dd_J6_bitCount_0f7a4_11 : decode cJ6_bitCount_0f7a4 11 = .ok (.ldc_w 266, 3) := by decide +kernel
theorem dd_J6_bitCount_0f7a4_14 : decode cJ6_bitCount_0f7a4 14 = .ok (.iand, 1) := by decide +kernel
theorem dd_J6_bitCount_0f7a4_15 : decode cJ6_bitCount_0f7a4 15 = .ok (.iload_n 0, 1) := by decide +kernel
theorem dd_J6_bitCount_0f7a4_16 : decode cJ6_bitCount_0f7a4 16 = .ok (.iconst 2, 1) := by decide +kernel
theorem dd_J6_bitCount_0f7a4_17 : decode cJ6_bitCount_0f7a4 17 = .ok (.iushr, 1) := by decide +kernel
theorem dd_J6_bitCount_0f7a4_18 : decode cJ6_bitCount_0f7a4 18 = .ok (.ldc_w 266, 3) := by decide +kernel
theorem dd_J6_bitCount_0f7a4_21 : decode cJ6_bitCount_0f7a4 21 = .ok (.iand, 1) := by decide +kernel
theorem dd_J6_bitCount_0f7a4_22 : decode cJ6_bitCount_0f7a4 22 = .ok (.iadd, 1) := by decide +kernel
theorem dd_J6_bitCount_0f7a4_23 : decode cJ6_bitCount_0f7a4 23 = .ok (.istore_n 0, 1) := by decide +kernel
theorem dd_J6_bitCount_0f7a4_24 : decode cJ6_bitCount_0f7a4 24 = .ok (.iload_n 0, 1) := by decide +kernel
theorem dd_J6_bitCount_0f7a4_25 : decode cJ6_bitCount_0f7a4 25 = .ok (.iload_n 0, 1) := by decide +kernel
theorem dd_J6_bitCount_0f7a4_26 : decode cJ6_bitCount_0f7a4 26 = .ok (.iconst 4, 1) := by decide +kernel
theorem dd_J6_bitCount_0f7a4_27 : decode cJ6_bitCount_0f7a4 27 = .ok (.iushr, 1) := by decide +kernel
theorem dd_J6_bitCount_0f7a4_28 : decode cJ6_bitCount_0f7a4 28 = .ok (.iadd, 1) := by decide +kernel
theorem dd_J6_bitCount_0f7a4_29 : decode cJ6_bitCount_0f7a4 29 = .ok (.ldc_w 267, 3) := by decide +kernel
theorem dd_J6_bitCount_0f7a4_32 : decode cJ6_bitCount_0f7a4 32 = .ok (.iand, 1) := by decide +kernel
theorem dd_J6_bitCount_0f7a4_33 : decode cJ6_bitCount_0f7a4 33 = .ok (.istore_n 0, 1) := by decide +kernel
theorem dd_J6_bitCount_0f7a4_34 : decode cJ6_bitCount_0f7a4 34 = .ok (.iload_n 0, 1) := by decide +kernel
theorem dd_J6_bitCount_0f7a4_35 : decode cJ6_bitCount_0f7a4 35 = .ok (.iload_n 0, 1) := by decide +kernel
theorem dd_J6_bitCount_0f7a4_36 : decode cJ6_bitCount_0f7a4 36 = .ok (.bipush 8, 2) := by decide +kernel
theorem dd_J6_bitCount_0f7a4_38 : decode cJ6_bitCount_0f7a4 38 = .ok (.iushr, 1) := by decide +kernel
theorem dd_J6_bitCount_0f7a4_39 : decode cJ6_bitCount_0f7a4 39 = .ok (.iadd, 1) := by decide +kernel
theorem dd_J6_bitCount_0f7a4_40 : decode cJ6_bitCount_0f7a4 40 = .ok (.istore_n 0, 1) := by decide +kernel
theorem dd_J6_bitCount_0f7a4_41 : decode cJ6_bitCount_0f7a4 41 = .ok (.iload_n 0, 1) := by decide +kernel
theorem dd_J6_bitCount_0f7a4_42 : decode cJ6_bitCount_0f7a4 42 = .ok (.iload_n 0, 1) := by decide +kernel
theorem dd_J6_bitCount_0f7a4_43 : decode cJ6_bitCount_0f7a4 43 = .ok (.bipush 16, 2) := by decide +kernel
theorem dd_J6_bitCount_0f7a4_45 : decode cJ6_bitCount_0f7a4 45 = .ok (.iushr, 1) := by decide +kernel
theorem dd_J6_bitCount_0f7a4_46 : decode cJ6_bitCount_0f7a4 46 = .ok (.iadd, 1) := by decide +kernel
theorem dd_J6_bitCount_0f7a4_47 : decode cJ6_bitCount_0f7a4 47 = .ok (.istore_n 0, 1) := by decide +kernel
theorem dd_J6_bitCount_0f7a4_48 : decode cJ6_bitCount_0f7a4 48 = .ok (.iload_n 0, 1) := by decide +kernel
theorem dd_J6_bitCount_0f7a4_49 : decode cJ6_bitCount_0f7a4 49 = .ok (.bipush 63, 2) := by decide +kernel
theorem dd_J6_bitCount_0f7a4_51 : decode cJ6_bitCount_0f7a4 51 = .ok (.iand, 1) := by decide +kernel
theorem dd_J6_bitCount_0f7a4_52 : decode cJ6_bitCount_0f7a4 52 = .ok (.ireturn, 1) := by decide +kernel
def tb_J6_bitCount_0f7a4 (kd : Nat → Nat) (K : zK) : zTab := [(0, zt_iload 0 1), (1, zt_iload 0 2), (2, zt_const (zI 1) 3), (3, zt_bin (fun x y => (x.toUInt32 >>> (y.toUInt32 &&& Int32.toUInt32 31)).toInt32) 4), (4, zt_const (zI 1431655765) 7), (7, zt_bin (fun x y => x &&& y) 8), (8, zt_bin (fun x y => x - y) 9), (9, zt_istore 0 10), (10, zt_iload 0 11), (11, zt_const (zI 858993459) 14), (14, zt_bin (fun x y => x &&& y) 15), (15, zt_iload 0 16), (16, zt_const (zI 2) 17), (17, zt_bin (fun x y => (x.toUInt32 >>> (y.toUInt32 &&& Int32.toUInt32 31)).toInt32) 18), (18, zt_const (zI 858993459) 21), (21, zt_bin (fun x y => x &&& y) 22), (22, zt_bin (fun x y => x + y) 23), (23, zt_istore 0 24), (24, zt_iload 0 25), (25, zt_iload 0 26), (26, zt_const (zI 4) 27), (27, zt_bin (fun x y => (x.toUInt32 >>> (y.toUInt32 &&& Int32.toUInt32 31)).toInt32) 28), (28, zt_bin (fun x y => x + y) 29), (29, zt_const (zI 252645135) 32), (32, zt_bin (fun x y => x &&& y) 33), (33, zt_istore 0 34), (34, zt_iload 0 35), (35, zt_iload 0 36), (36, zt_const (zI 8) 38), (38, zt_bin (fun x y => (x.toUInt32 >>> (y.toUInt32 &&& Int32.toUInt32 31)).toInt32) 39), (39, zt_bin (fun x y => x + y) 40), (40, zt_istore 0 41), (41, zt_iload 0 42), (42, zt_iload 0 43), (43, zt_const (zI 16) 45), (45, zt_bin (fun x y => (x.toUInt32 >>> (y.toUInt32 &&& Int32.toUInt32 31)).toInt32) 46), (46, zt_bin (fun x y => x + y) 47), (47, zt_istore 0 48), (48, zt_iload 0 49), (49, zt_const (zI 63) 51), (51, zt_bin (fun x y => x &&& y) 52), (52, zt_iret K)]
set_option maxRecDepth 20000 in
theorem tk_J6_bitCount_0f7a4 (d : Nat)  : zTrue RJ6 cJ6_bitCount_0f7a4 1 (some .int) (d + 1) (fun kd K => tb_J6_bitCount_0f7a4 kd K) := by
  intro p l e R s m args below meth c D cy A ad bl Qm K C0 hr hlocks hQ
  obtain ⟨hx, hb, hml, hown, hts, hK, hD, hA0, hN, hE, ⟨hR1, hR2⟩, hc1, hc2⟩ := id C0
  unfold tb_J6_bitCount_0f7a4
  refine List.forall_mem_cons.mpr ⟨ok_iload_n hx hb rfl dd_J6_bitCount_0f7a4_0, ?_⟩
  refine List.forall_mem_cons.mpr ⟨ok_iload_n hx hb rfl dd_J6_bitCount_0f7a4_1, ?_⟩
  refine List.forall_mem_cons.mpr ⟨ok_iconst hx hb dd_J6_bitCount_0f7a4_2 (by decide), ?_⟩
  refine List.forall_mem_cons.mpr ⟨ok_iushr hx hb dd_J6_bitCount_0f7a4_3, ?_⟩
  refine List.forall_mem_cons.mpr ⟨ok_ldcw hx hb hown (hts _ wd_732) dd_J6_bitCount_0f7a4_4, ?_⟩
  refine List.forall_mem_cons.mpr ⟨ok_iand hx hb dd_J6_bitCount_0f7a4_7, ?_⟩
  refine List.forall_mem_cons.mpr ⟨ok_isub hx hb dd_J6_bitCount_0f7a4_8, ?_⟩
  refine List.forall_mem_cons.mpr ⟨ok_istore_n hx hb rfl dd_J6_bitCount_0f7a4_9, ?_⟩
  refine List.forall_mem_cons.mpr ⟨ok_iload_n hx hb rfl dd_J6_bitCount_0f7a4_10, ?_⟩
  refine List.forall_mem_cons.mpr ⟨ok_ldcw hx hb hown (hts _ wd_733) dd_J6_bitCount_0f7a4_11, ?_⟩
  refine List.forall_mem_cons.mpr ⟨ok_iand hx hb dd_J6_bitCount_0f7a4_14, ?_⟩
  refine List.forall_mem_cons.mpr ⟨ok_iload_n hx hb rfl dd_J6_bitCount_0f7a4_15, ?_⟩
  refine List.forall_mem_cons.mpr ⟨ok_iconst hx hb dd_J6_bitCount_0f7a4_16 (by decide), ?_⟩
  refine List.forall_mem_cons.mpr ⟨ok_iushr hx hb dd_J6_bitCount_0f7a4_17, ?_⟩
  refine List.forall_mem_cons.mpr ⟨ok_ldcw hx hb hown (hts _ wd_733) dd_J6_bitCount_0f7a4_18, ?_⟩
  refine List.forall_mem_cons.mpr ⟨ok_iand hx hb dd_J6_bitCount_0f7a4_21, ?_⟩
  refine List.forall_mem_cons.mpr ⟨ok_iadd hx hb dd_J6_bitCount_0f7a4_22, ?_⟩
  refine List.forall_mem_cons.mpr ⟨ok_istore_n hx hb rfl dd_J6_bitCount_0f7a4_23, ?_⟩
  refine List.forall_mem_cons.mpr ⟨ok_iload_n hx hb rfl dd_J6_bitCount_0f7a4_24, ?_⟩
  refine List.forall_mem_cons.mpr ⟨ok_iload_n hx hb rfl dd_J6_bitCount_0f7a4_25, ?_⟩
  refine List.forall_mem_cons.mpr ⟨ok_iconst hx hb dd_J6_bitCount_0f7a4_26 (by decide), ?_⟩
  refine List.forall_mem_cons.mpr ⟨ok_iushr hx hb dd_J6_bitCount_0f7a4_27, ?_⟩
  refine List.forall_mem_cons.mpr ⟨ok_iadd hx hb dd_J6_bitCount_0f7a4_28, ?_⟩
  refine List.forall_mem_cons.mpr ⟨ok_ldcw hx hb hown (hts _ wd_734) dd_J6_bitCount_0f7a4_29, ?_⟩
  refine List.forall_mem_cons.mpr ⟨ok_iand hx hb dd_J6_bitCount_0f7a4_32, ?_⟩
  refine List.forall_mem_cons.mpr ⟨ok_istore_n hx hb rfl dd_J6_bitCount_0f7a4_33, ?_⟩
  refine List.forall_mem_cons.mpr ⟨ok_iload_n hx hb rfl dd_J6_bitCount_0f7a4_34, ?_⟩
  refine List.forall_mem_cons.mpr ⟨ok_iload_n hx hb rfl dd_J6_bitCount_0f7a4_35, ?_⟩
  refine List.forall_mem_cons.mpr ⟨ok_bipush hx hb dd_J6_bitCount_0f7a4_36 (by decide), ?_⟩
  refine List.forall_mem_cons.mpr ⟨ok_iushr hx hb dd_J6_bitCount_0f7a4_38, ?_⟩
  refine List.forall_mem_cons.mpr ⟨ok_iadd hx hb dd_J6_bitCount_0f7a4_39, ?_⟩
  refine List.forall_mem_cons.mpr ⟨ok_istore_n hx hb rfl dd_J6_bitCount_0f7a4_40, ?_⟩
  refine List.forall_mem_cons.mpr ⟨ok_iload_n hx hb rfl dd_J6_bitCount_0f7a4_41, ?_⟩
  refine List.forall_mem_cons.mpr ⟨ok_iload_n hx hb rfl dd_J6_bitCount_0f7a4_42, ?_⟩
  refine List.forall_mem_cons.mpr ⟨ok_bipush hx hb dd_J6_bitCount_0f7a4_43 (by decide), ?_⟩
  refine List.forall_mem_cons.mpr ⟨ok_iushr hx hb dd_J6_bitCount_0f7a4_45, ?_⟩
  refine List.forall_mem_cons.mpr ⟨ok_iadd hx hb dd_J6_bitCount_0f7a4_46, ?_⟩
  refine List.forall_mem_cons.mpr ⟨ok_istore_n hx hb rfl dd_J6_bitCount_0f7a4_47, ?_⟩
  refine List.forall_mem_cons.mpr ⟨ok_iload_n hx hb rfl dd_J6_bitCount_0f7a4_48, ?_⟩
  refine List.forall_mem_cons.mpr ⟨ok_bipush hx hb dd_J6_bitCount_0f7a4_49 (by decide), ?_⟩
  refine List.forall_mem_cons.mpr ⟨ok_iand hx hb dd_J6_bitCount_0f7a4_51, ?_⟩
  refine List.forall_mem_cons.mpr ⟨ok_iret hx hb hr hlocks hQ dd_J6_bitCount_0f7a4_52, ?_⟩
  exact fun _ h => absurd h List.not_mem_nil
set_option maxRecDepth 100000 in
theorem vc_J6_bitCount_0f7a4_0 {kd : Nat → Nat} {K : zK} {X : zX} (hX : ∀ (n pc : Nat) (ls : zLS) (st : List zV) (M : zM), zrun (tb_J6_bitCount_0f7a4 kd K) [] n X pc ls st M → X pc ls st M) {x : Int32} {M : zM}  (h : K (some (zI ((((((((x - (((x.toUInt32 >>> ((1 : Int32).toUInt32 &&& Int32.toUInt32 31)).toInt32) &&& (1431655765 : Int32))) &&& (858993459 : Int32)) + ((((x - (((x.toUInt32 >>> ((1 : Int32).toUInt32 &&& Int32.toUInt32 31)).toInt32) &&& (1431655765 : Int32))).toUInt32 >>> ((2 : Int32).toUInt32 &&& Int32.toUInt32 31)).toInt32) &&& (858993459 : Int32))) + (((((x - (((x.toUInt32 >>> ((1 : Int32).toUInt32 &&& Int32.toUInt32 31)).toInt32) &&& (1431655765 : Int32))) &&& (858993459 : Int32)) + ((((x - (((x.toUInt32 >>> ((1 : Int32).toUInt32 &&& Int32.toUInt32 31)).toInt32) &&& (1431655765 : Int32))).toUInt32 >>> ((2 : Int32).toUInt32 &&& Int32.toUInt32 31)).toInt32) &&& (858993459 : Int32))).toUInt32 >>> ((4 : Int32).toUInt32 &&& Int32.toUInt32 31)).toInt32)) &&& (252645135 : Int32)) + (((((((x - (((x.toUInt32 >>> ((1 : Int32).toUInt32 &&& Int32.toUInt32 31)).toInt32) &&& (1431655765 : Int32))) &&& (858993459 : Int32)) + ((((x - (((x.toUInt32 >>> ((1 : Int32).toUInt32 &&& Int32.toUInt32 31)).toInt32) &&& (1431655765 : Int32))).toUInt32 >>> ((2 : Int32).toUInt32 &&& Int32.toUInt32 31)).toInt32) &&& (858993459 : Int32))) + (((((x - (((x.toUInt32 >>> ((1 : Int32).toUInt32 &&& Int32.toUInt32 31)).toInt32) &&& (1431655765 : Int32))) &&& (858993459 : Int32)) + ((((x - (((x.toUInt32 >>> ((1 : Int32).toUInt32 &&& Int32.toUInt32 31)).toInt32) &&& (1431655765 : Int32))).toUInt32 >>> ((2 : Int32).toUInt32 &&& Int32.toUInt32 31)).toInt32) &&& (858993459 : Int32))).toUInt32 >>> ((4 : Int32).toUInt32 &&& Int32.toUInt32 31)).toInt32)) &&& (252645135 : Int32)).toUInt32 >>> ((8 : Int32).toUInt32 &&& Int32.toUInt32 31)).toInt32)) + ((((((((x - (((x.toUInt32 >>> ((1 : Int32).toUInt32 &&& Int32.toUInt32 31)).toInt32) &&& (1431655765 : Int32))) &&& (858993459 : Int32)) + ((((x - (((x.toUInt32 >>> ((1 : Int32).toUInt32 &&& Int32.toUInt32 31)).toInt32) &&& (1431655765 : Int32))).toUInt32 >>> ((2 : Int32).toUInt32 &&& Int32.toUInt32 31)).toInt32) &&& (858993459 : Int32))) + (((((x - (((x.toUInt32 >>> ((1 : Int32).toUInt32 &&& Int32.toUInt32 31)).toInt32) &&& (1431655765 : Int32))) &&& (858993459 : Int32)) + ((((x - (((x.toUInt32 >>> ((1 : Int32).toUInt32 &&& Int32.toUInt32 31)).toInt32) &&& (1431655765 : Int32))).toUInt32 >>> ((2 : Int32).toUInt32 &&& Int32.toUInt32 31)).toInt32) &&& (858993459 : Int32))).toUInt32 >>> ((4 : Int32).toUInt32 &&& Int32.toUInt32 31)).toInt32)) &&& (252645135 : Int32)) + (((((((x - (((x.toUInt32 >>> ((1 : Int32).toUInt32 &&& Int32.toUInt32 31)).toInt32) &&& (1431655765 : Int32))) &&& (858993459 : Int32)) + ((((x - (((x.toUInt32 >>> ((1 : Int32).toUInt32 &&& Int32.toUInt32 31)).toInt32) &&& (1431655765 : Int32))).toUInt32 >>> ((2 : Int32).toUInt32 &&& Int32.toUInt32 31)).toInt32) &&& (858993459 : Int32))) + (((((x - (((x.toUInt32 >>> ((1 : Int32).toUInt32 &&& Int32.toUInt32 31)).toInt32) &&& (1431655765 : Int32))) &&& (858993459 : Int32)) + ((((x - (((x.toUInt32 >>> ((1 : Int32).toUInt32 &&& Int32.toUInt32 31)).toInt32) &&& (1431655765 : Int32))).toUInt32 >>> ((2 : Int32).toUInt32 &&& Int32.toUInt32 31)).toInt32) &&& (858993459 : Int32))).toUInt32 >>> ((4 : Int32).toUInt32 &&& Int32.toUInt32 31)).toInt32)) &&& (252645135 : Int32)).toUInt32 >>> ((8 : Int32).toUInt32 &&& Int32.toUInt32 31)).toInt32)).toUInt32 >>> ((16 : Int32).toUInt32 &&& Int32.toUInt32 31)).toInt32)) &&& (63 : Int32)))) M) : X 0 [some (zI (x))] [] M := hX 43 0 _ [] M (show K (some (zI ((((((((x - (((x.toUInt32 >>> ((1 : Int32).toUInt32 &&& Int32.toUInt32 31)).toInt32) &&& (1431655765 : Int32))) &&& (858993459 : Int32)) + ((((x - (((x.toUInt32 >>> ((1 : Int32).toUInt32 &&& Int32.toUInt32 31)).toInt32) &&& (1431655765 : Int32))).toUInt32 >>> ((2 : Int32).toUInt32 &&& Int32.toUInt32 31)).toInt32) &&& (858993459 : Int32))) + (((((x - (((x.toUInt32 >>> ((1 : Int32).toUInt32 &&& Int32.toUInt32 31)).toInt32) &&& (1431655765 : Int32))) &&& (858993459 : Int32)) + ((((x - (((x.toUInt32 >>> ((1 : Int32).toUInt32 &&& Int32.toUInt32 31)).toInt32) &&& (1431655765 : Int32))).toUInt32 >>> ((2 : Int32).toUInt32 &&& Int32.toUInt32 31)).toInt32) &&& (858993459 : Int32))).toUInt32 >>> ((4 : Int32).toUInt32 &&& Int32.toUInt32 31)).toInt32)) &&& (252645135 : Int32)) + (((((((x - (((x.toUInt32 >>> ((1 : Int32).toUInt32 &&& Int32.toUInt32 31)).toInt32) &&& (1431655765 : Int32))) &&& (858993459 : Int32)) + ((((x - (((x.toUInt32 >>> ((1 : Int32).toUInt32 &&& Int32.toUInt32 31)).toInt32) &&& (1431655765 : Int32))).toUInt32 >>> ((2 : Int32).toUInt32 &&& Int32.toUInt32 31)).toInt32) &&& (858993459 : Int32))) + (((((x - (((x.toUInt32 >>> ((1 : Int32).toUInt32 &&& Int32.toUInt32 31)).toInt32) &&& (1431655765 : Int32))) &&& (858993459 : Int32)) + ((((x - (((x.toUInt32 >>> ((1 : Int32).toUInt32 &&& Int32.toUInt32 31)).toInt32) &&& (1431655765 : Int32))).toUInt32 >>> ((2 : Int32).toUInt32 &&& Int32.toUInt32 31)).toInt32) &&& (858993459 : Int32))).toUInt32 >>> ((4 : Int32).toUInt32 &&& Int32.toUInt32 31)).toInt32)) &&& (252645135 : Int32)).toUInt32 >>> ((8 : Int32).toUInt32 &&& Int32.toUInt32 31)).toInt32)) + ((((((((x - (((x.toUInt32 >>> ((1 : Int32).toUInt32 &&& Int32.toUInt32 31)).toInt32) &&& (1431655765 : Int32))) &&& (858993459 : Int32)) + ((((x - (((x.toUInt32 >>> ((1 : Int32).toUInt32 &&& Int32.toUInt32 31)).toInt32) &&& (1431655765 : Int32))).toUInt32 >>> ((2 : Int32).toUInt32 &&& Int32.toUInt32 31)).toInt32) &&& (858993459 : Int32))) + (((((x - (((x.toUInt32 >>> ((1 : Int32).toUInt32 &&& Int32.toUInt32 31)).toInt32) &&& (1431655765 : Int32))) &&& (858993459 : Int32)) + ((((x - (((x.toUInt32 >>> ((1 : Int32).toUInt32 &&& Int32.toUInt32 31)).toInt32) &&& (1431655765 : Int32))).toUInt32 >>> ((2 : Int32).toUInt32 &&& Int32.toUInt32 31)).toInt32) &&& (858993459 : Int32))).toUInt32 >>> ((4 : Int32).toUInt32 &&& Int32.toUInt32 31)).toInt32)) &&& (252645135 : Int32)) + (((((((x - (((x.toUInt32 >>> ((1 : Int32).toUInt32 &&& Int32.toUInt32 31)).toInt32) &&& (1431655765 : Int32))) &&& (858993459 : Int32)) + ((((x - (((x.toUInt32 >>> ((1 : Int32).toUInt32 &&& Int32.toUInt32 31)).toInt32) &&& (1431655765 : Int32))).toUInt32 >>> ((2 : Int32).toUInt32 &&& Int32.toUInt32 31)).toInt32) &&& (858993459 : Int32))) + (((((x - (((x.toUInt32 >>> ((1 : Int32).toUInt32 &&& Int32.toUInt32 31)).toInt32) &&& (1431655765 : Int32))) &&& (858993459 : Int32)) + ((((x - (((x.toUInt32 >>> ((1 : Int32).toUInt32 &&& Int32.toUInt32 31)).toInt32) &&& (1431655765 : Int32))).toUInt32 >>> ((2 : Int32).toUInt32 &&& Int32.toUInt32 31)).toInt32) &&& (858993459 : Int32))).toUInt32 >>> ((4 : Int32).toUInt32 &&& Int32.toUInt32 31)).toInt32)) &&& (252645135 : Int32)).toUInt32 >>> ((8 : Int32).toUInt32 &&& Int32.toUInt32 31)).toInt32)).toUInt32 >>> ((16 : Int32).toUInt32 &&& Int32.toUInt32 31)).toInt32)) &&& (63 : Int32)))) M from h)
def sp_X7_mix : zSpec := fun kd as M K => match as with
  | [.inr (.inl p), .inr (.inl q)] => ∀ v : Int64, (v = 31 * p + q) → K (some (.inr (.inl v))) M
  | _ => False
theorem dd_X7_mix_0 : decode cX7_mix 0 = .ok (.ldc2_w 263, 3) := by decide +kernel
theorem dd_X7_mix_3 : decode cX7_mix 3 = .ok (.lload_n 0, 1) := by decide +kernel
theorem dd_X7_mix_4 : decode cX7_mix 4 = .ok (.lmul, 1) := by decide +kernel
theorem dd_X7_mix_5 : decode cX7_mix 5 = .ok (.lload_n 2, 1) := by decide +kernel
theorem dd_X7_mix_6 : decode cX7_mix 6 = .ok (.ladd, 1) := by decide +kernel
theorem dd_X7_mix_7 : decode cX7_mix 7 = .ok (.lreturn, 1) := by decide +kernel
def tb_X7_mix (kd : Nat → Nat) (K : zK) : zTab := [(0, zt_const (zL 31) 3), (3, zt_lload 0 4), (4, zt_binL (fun x y => x * y) 5), (5, zt_lload 2 6), (6, zt_binL (fun x y => x + y) 7), (7, zt_lret K)]
set_option maxRecDepth 20000 in
theorem tk_X7_mix (d : Nat)  : zTrue RX7 cX7_mix 4 (some .long) (d + 1) (fun kd K => tb_X7_mix kd K) := by
  intro p l e R s m args below meth c D cy A ad bl Qm K C0 hr hlocks hQ
  obtain ⟨hx, hb, hml, hown, hts, hK, hD, hA0, hN, hE, ⟨hR1, hR2⟩, hc1, hc2⟩ := id C0
  unfold tb_X7_mix
  refine List.forall_mem_cons.mpr ⟨ok_ldc2 hx hb hown (hts _ wd_819) dd_X7_mix_0, ?_⟩
  refine List.forall_mem_cons.mpr ⟨ok_lload_n hx hb rfl dd_X7_mix_3, ?_⟩
  refine List.forall_mem_cons.mpr ⟨ok_lmul hx hb dd_X7_mix_4, ?_⟩
  refine List.forall_mem_cons.mpr ⟨ok_lload_n hx hb rfl dd_X7_mix_5, ?_⟩
  refine List.forall_mem_cons.mpr ⟨ok_ladd hx hb dd_X7_mix_6, ?_⟩
  refine List.forall_mem_cons.mpr ⟨ok_lret hx hb hr hlocks hQ dd_X7_mix_7, ?_⟩
  exact fun _ h => absurd h List.not_mem_nil
set_option maxRecDepth 100000 in
theorem vc_X7_mix_0 {kd : Nat → Nat} {K : zK} {X : zX} (hX : ∀ (n pc : Nat) (ls : zLS) (st : List zV) (M : zM), zrun (tb_X7_mix kd K) [] n X pc ls st M → X pc ls st M) {p : Int64} {q : Int64} {M : zM}  (h : K (some (zL (((31 : Int64) * p) + q))) M) : X 0 [some (zL (p)), none, some (zL (q)), none] [] M := hX 7 0 _ [] M (show K (some (zL (((31 : Int64) * p) + q))) M from h)
def sp_X3_tellingYear : zSpec := fun kd as M K => match as with
  | [.inr (.inr (.inl (t, 0))), .inl n, .inl c, .inl i] => (kd t = 3) ∧ ∃ a : Sk, (RpS (M.1 t) a) ∧ (0 ≤ n.toInt ∧ n.toInt < 64) ∧ ∃ l : Ly, (sk_at a c.toInt i.toInt = some l) ∧ ∀ v : Int32, (isArg (sk_lk a n.toInt c.toInt i.toInt) a.2 (hi99 a.2) v.toInt) → K (some (.inl v)) M
  | _ => False
theorem rv_X3_tellingYear : zrv sp_X3_tellingYear 3 3 := by
  intro kd as M K h
  unfold sp_X3_tellingYear at h
  split at h
  · exact ⟨_, _, rfl, h.1⟩
  · exact h.elim
theorem dd_X3_tellingYear_0 : decode cX3_tellingYear 0 = .ok (.iload_n 1, 1) := by decide +kernel
theorem dd_X3_tellingYear_1 : decode cX3_tellingYear 1 = .ok (.invokestatic 107, 3) := by decide +kernel
theorem dd_X3_tellingYear_4 : decode cX3_tellingYear 4 = .ok (.istore 4, 2) := by decide +kernel
theorem dd_X3_tellingYear_6 : decode cX3_tellingYear 6 = .ok (.bipush 7, 2) := by decide +kernel
theorem dd_X3_tellingYear_8 : decode cX3_tellingYear 8 = .ok (.istore 5, 2) := by decide +kernel
theorem dd_X3_tellingYear_10 : decode cX3_tellingYear 10 = .ok (.iconst (-1), 1) := by decide +kernel
theorem dd_X3_tellingYear_11 : decode cX3_tellingYear 11 = .ok (.istore 6, 2) := by decide +kernel
theorem dd_X3_tellingYear_13 : decode cX3_tellingYear 13 = .ok (.aload_n 0, 1) := by decide +kernel
theorem dd_X3_tellingYear_14 : decode cX3_tellingYear 14 = .ok (.getfield 30, 3) := by decide +kernel
theorem dd_X3_tellingYear_17 : decode cX3_tellingYear 17 = .ok (.istore 7, 2) := by decide +kernel
theorem dd_X3_tellingYear_19 : decode cX3_tellingYear 19 = .ok (.iload 7, 2) := by decide +kernel
theorem dd_X3_tellingYear_21 : decode cX3_tellingYear 21 = .ok (.aload_n 0, 1) := by decide +kernel
theorem dd_X3_tellingYear_22 : decode cX3_tellingYear 22 = .ok (.getfield 30, 3) := by decide +kernel
theorem dd_X3_tellingYear_25 : decode cX3_tellingYear 25 = .ok (.bipush 99, 2) := by decide +kernel
theorem dd_X3_tellingYear_27 : decode cX3_tellingYear 27 = .ok (.iadd, 1) := by decide +kernel
theorem dd_X3_tellingYear_28 : decode cX3_tellingYear 28 = .ok (.if_icmp .gt 89, 3) := by decide +kernel
theorem dd_X3_tellingYear_31 : decode cX3_tellingYear 31 = .ok (.iload 7, 2) := by decide +kernel
theorem dd_X3_tellingYear_33 : decode cX3_tellingYear 33 = .ok (.sipush 999, 3) := by decide +kernel
theorem dd_X3_tellingYear_36 : decode cX3_tellingYear 36 = .ok (.if_icmp .gt 81, 3) := by decide +kernel
theorem dd_X3_tellingYear_39 : decode cX3_tellingYear 39 = .ok (.iconst 0, 1) := by decide +kernel
theorem dd_X3_tellingYear_40 : decode cX3_tellingYear 40 = .ok (.istore 8, 2) := by decide +kernel
theorem dd_X3_tellingYear_42 : decode cX3_tellingYear 42 = .ok (.iconst 0, 1) := by decide +kernel
theorem dd_X3_tellingYear_43 : decode cX3_tellingYear 43 = .ok (.istore 9, 2) := by decide +kernel
theorem dd_X3_tellingYear_45 : decode cX3_tellingYear 45 = .ok (.iload 9, 2) := by decide +kernel
theorem dd_X3_tellingYear_47 : decode cX3_tellingYear 47 = .ok (.bipush 6, 2) := by decide +kernel
theorem dd_X3_tellingYear_49 : decode cX3_tellingYear 49 = .ok (.if_icmp .ge 35, 3) := by decide +kernel
theorem dd_X3_tellingYear_52 : decode cX3_tellingYear 52 = .ok (.iload_n 1, 1) := by decide +kernel
theorem dd_X3_tellingYear_53 : decode cX3_tellingYear 53 = .ok (.iload 9, 2) := by decide +kernel
theorem dd_X3_tellingYear_55 : decode cX3_tellingYear 55 = .ok (.ishr, 1) := by decide +kernel
theorem dd_X3_tellingYear_56 : decode cX3_tellingYear 56 = .ok (.iconst 1, 1) := by decide +kernel
theorem dd_X3_tellingYear_57 : decode cX3_tellingYear 57 = .ok (.iand, 1) := by decide +kernel
theorem dd_X3_tellingYear_58 : decode cX3_tellingYear 58 = .ok (.iconst 1, 1) := by decide +kernel
theorem dd_X3_tellingYear_59 : decode cX3_tellingYear 59 = .ok (.if_icmp .ne 19, 3) := by decide +kernel
theorem dd_X3_tellingYear_62 : decode cX3_tellingYear 62 = .ok (.aload_n 0, 1) := by decide +kernel
theorem dd_X3_tellingYear_63 : decode cX3_tellingYear 63 = .ok (.iload 9, 2) := by decide +kernel
theorem dd_X3_tellingYear_65 : decode cX3_tellingYear 65 = .ok (.iload_n 2, 1) := by decide +kernel
theorem dd_X3_tellingYear_66 : decode cX3_tellingYear 66 = .ok (.iload_n 3, 1) := by decide +kernel
theorem dd_X3_tellingYear_67 : decode cX3_tellingYear 67 = .ok (.iload 7, 2) := by decide +kernel
theorem dd_X3_tellingYear_69 : decode cX3_tellingYear 69 = .ok (.invokevirtual 84, 3) := by decide +kernel
theorem dd_X3_tellingYear_72 : decode cX3_tellingYear 72 = .ok (.ifCond .eq 6, 3) := by decide +kernel
theorem dd_X3_tellingYear_75 : decode cX3_tellingYear 75 = .ok (.iinc 8 1, 3) := by decide +kernel
theorem dd_X3_tellingYear_78 : decode cX3_tellingYear 78 = .ok (.iinc 9 1, 3) := by decide +kernel
theorem dd_X3_tellingYear_81 : decode cX3_tellingYear 81 = .ok (.goto (-36), 3) := by decide +kernel
theorem dd_X3_tellingYear_84 : decode cX3_tellingYear 84 = .ok (.iload 8, 2) := by decide +kernel
theorem dd_X3_tellingYear_86 : decode cX3_tellingYear 86 = .ok (.iload 4, 2) := by decide +kernel
theorem dd_X3_tellingYear_88 : decode cX3_tellingYear 88 = .ok (.iload 8, 2) := by decide +kernel
theorem dd_X3_tellingYear_90 : decode cX3_tellingYear 90 = .ok (.isub, 1) := by decide +kernel
theorem dd_X3_tellingYear_91 : decode cX3_tellingYear 91 = .ok (.invokestatic 92, 3) := by decide +kernel
theorem dd_X3_tellingYear_94 : decode cX3_tellingYear 94 = .ok (.istore 9, 2) := by decide +kernel
theorem dd_X3_tellingYear_96 : decode cX3_tellingYear 96 = .ok (.iload 9, 2) := by decide +kernel
theorem dd_X3_tellingYear_98 : decode cX3_tellingYear 98 = .ok (.iload 5, 2) := by decide +kernel
theorem dd_X3_tellingYear_100 : decode cX3_tellingYear 100 = .ok (.if_icmp .ge 11, 3) := by decide +kernel
theorem dd_X3_tellingYear_103 : decode cX3_tellingYear 103 = .ok (.iload 9, 2) := by decide +kernel
theorem dd_X3_tellingYear_105 : decode cX3_tellingYear 105 = .ok (.istore 5, 2) := by decide +kernel
theorem dd_X3_tellingYear_107 : decode cX3_tellingYear 107 = .ok (.iload 7, 2) := by decide +kernel
theorem dd_X3_tellingYear_109 : decode cX3_tellingYear 109 = .ok (.istore 6, 2) := by decide +kernel
theorem dd_X3_tellingYear_111 : decode cX3_tellingYear 111 = .ok (.iinc 7 1, 3) := by decide +kernel
theorem dd_X3_tellingYear_114 : decode cX3_tellingYear 114 = .ok (.goto (-95), 3) := by decide +kernel
theorem dd_X3_tellingYear_117 : decode cX3_tellingYear 117 = .ok (.iload 6, 2) := by decide +kernel
theorem dd_X3_tellingYear_119 : decode cX3_tellingYear 119 = .ok (.ireturn, 1) := by decide +kernel
def tb_X3_tellingYear (kd : Nat → Nat) (K : zK) : zTab := [(0, zt_iload 1 1), (1, zt_call kd sp_J6_bitCount_0f7a4 1 4), (4, zt_istore 4 6), (6, zt_const (zI 7) 8), (8, zt_istore 5 10), (10, zt_const (zI (-1)) 11), (11, zt_istore 6 13), (13, zt_aload 0 14), (14, zt_getI kd 3 6 17), (17, zt_istore 7 19), (19, zt_iload 7 21), (21, zt_aload 0 22), (22, zt_getI kd 3 6 25), (25, zt_const (zI 99) 27), (27, zt_bin (fun x y => x + y) 28), (28, zt_icmp (fun x y => y < x) (fun x y => ¬ y < x) 117 31), (31, zt_iload 7 33), (33, zt_const (zI 999) 36), (36, zt_icmp (fun x y => y < x) (fun x y => ¬ y < x) 117 39), (39, zt_const (zI 0) 40), (40, zt_istore 8 42), (42, zt_const (zI 0) 43), (43, zt_istore 9 45), (45, zt_iload 9 47), (47, zt_const (zI 6) 49), (49, zt_icmp (fun x y => y ≤ x) (fun x y => ¬ y ≤ x) 84 52), (52, zt_iload 1 53), (53, zt_iload 9 55), (55, zt_bin (fun x y => x >>> (y &&& 31)) 56), (56, zt_const (zI 1) 57), (57, zt_bin (fun x y => x &&& y) 58), (58, zt_const (zI 1) 59), (59, zt_icmp (fun x y => ¬ x = y) (fun x y => x = y) 78 62), (62, zt_aload 0 63), (63, zt_iload 9 65), (65, zt_iload 2 66), (66, zt_iload 3 67), (67, zt_iload 7 69), (69, zt_call kd sp_X3_wouldBind 5 72), (72, zt_if (fun x => x = 0) (fun x => ¬ x = 0) 78 75), (75, zt_iinc 8 1 78), (78, zt_iinc 9 1 81), (81, zt_goto 45), (84, zt_iload 8 86), (86, zt_iload 4 88), (88, zt_iload 8 90), (90, zt_bin (fun x y => x - y) 91), (91, zt_wbin (fun x y => if x < y then y else x) 94), (94, zt_istore 9 96), (96, zt_iload 9 98), (98, zt_iload 5 100), (100, zt_icmp (fun x y => y ≤ x) (fun x y => ¬ y ≤ x) 111 103), (103, zt_iload 9 105), (105, zt_istore 5 107), (107, zt_iload 7 109), (109, zt_istore 6 111), (111, zt_iinc 7 1 114), (114, zt_goto 19), (117, zt_iload 6 119), (119, zt_iret K)]
set_option maxRecDepth 20000 in
theorem tk_X3_tellingYear (d : Nat) (h_J6_bitCount_0f7a4 : zMS 1 yJ6_bitCount_0f7a4 cJ6_bitCount_0f7a4 1 (some .int) sp_J6_bitCount_0f7a4) (h_X3_wouldBind : zMS 3 yX3_wouldBind cX3_wouldBind 6 (some .boolean) sp_X3_wouldBind) : zTrue RX3 cX3_tellingYear 10 (some .int) (d + 4) (fun kd K => tb_X3_tellingYear kd K) := by
  intro p l e R s m args below meth c D cy A ad bl Qm K C0 hr hlocks hQ
  obtain ⟨hx, hb, hml, hown, hts, hK, hD, hA0, hN, hE, ⟨hR1, hR2⟩, hc1, hc2⟩ := id C0
  unfold tb_X3_tellingYear
  refine List.forall_mem_cons.mpr ⟨ok_iload_n hx hb rfl dd_X3_tellingYear_0, ?_⟩
  refine List.forall_mem_cons.mpr ⟨ok_callS (n := 1) C0 (h_J6_bitCount_0f7a4 (d + 3) (by omega)) (by decide) wd_731 wd_729 wd_730 wd_115 ⟨by decide +kernel, by decide +kernel, by decide +kernel⟩ dd_X3_tellingYear_1, ?_⟩
  refine List.forall_mem_cons.mpr ⟨ok_istore hx hb dd_X3_tellingYear_4, ?_⟩
  refine List.forall_mem_cons.mpr ⟨ok_bipush hx hb dd_X3_tellingYear_6 (by decide), ?_⟩
  refine List.forall_mem_cons.mpr ⟨ok_istore hx hb dd_X3_tellingYear_8, ?_⟩
  refine List.forall_mem_cons.mpr ⟨ok_iconst hx hb dd_X3_tellingYear_10 (by decide), ?_⟩
  refine List.forall_mem_cons.mpr ⟨ok_istore hx hb dd_X3_tellingYear_11, ?_⟩
  refine List.forall_mem_cons.mpr ⟨ok_aload_n hx hb rfl dd_X3_tellingYear_13, ?_⟩
  refine List.forall_mem_cons.mpr ⟨ok_getI (j := 6) hx hb hts zi_X3 hown hK zc_X3 (by decide) rfl (fun t fl h => by cases h; rfl) (hts _ wd_143) dd_X3_tellingYear_14, ?_⟩
  refine List.forall_mem_cons.mpr ⟨ok_istore hx hb dd_X3_tellingYear_17, ?_⟩
  refine List.forall_mem_cons.mpr ⟨ok_iload hx hb dd_X3_tellingYear_19, ?_⟩
  refine List.forall_mem_cons.mpr ⟨ok_aload_n hx hb rfl dd_X3_tellingYear_21, ?_⟩
  refine List.forall_mem_cons.mpr ⟨ok_getI (j := 6) hx hb hts zi_X3 hown hK zc_X3 (by decide) rfl (fun t fl h => by cases h; rfl) (hts _ wd_143) dd_X3_tellingYear_22, ?_⟩
  refine List.forall_mem_cons.mpr ⟨ok_bipush hx hb dd_X3_tellingYear_25 (by decide), ?_⟩
  refine List.forall_mem_cons.mpr ⟨ok_iadd hx hb dd_X3_tellingYear_27, ?_⟩
  refine List.forall_mem_cons.mpr ⟨ok_icmp_gt hx hb dd_X3_tellingYear_28 (by decide), ?_⟩
  refine List.forall_mem_cons.mpr ⟨ok_iload hx hb dd_X3_tellingYear_31, ?_⟩
  refine List.forall_mem_cons.mpr ⟨ok_sipush hx hb dd_X3_tellingYear_33 (by decide), ?_⟩
  refine List.forall_mem_cons.mpr ⟨ok_icmp_gt hx hb dd_X3_tellingYear_36 (by decide), ?_⟩
  refine List.forall_mem_cons.mpr ⟨ok_iconst hx hb dd_X3_tellingYear_39 (by decide), ?_⟩
  refine List.forall_mem_cons.mpr ⟨ok_istore hx hb dd_X3_tellingYear_40, ?_⟩
  refine List.forall_mem_cons.mpr ⟨ok_iconst hx hb dd_X3_tellingYear_42 (by decide), ?_⟩
  refine List.forall_mem_cons.mpr ⟨ok_istore hx hb dd_X3_tellingYear_43, ?_⟩
  refine List.forall_mem_cons.mpr ⟨ok_iload hx hb dd_X3_tellingYear_45, ?_⟩
  refine List.forall_mem_cons.mpr ⟨ok_bipush hx hb dd_X3_tellingYear_47 (by decide), ?_⟩
  refine List.forall_mem_cons.mpr ⟨ok_icmp_ge hx hb dd_X3_tellingYear_49 (by decide), ?_⟩
  refine List.forall_mem_cons.mpr ⟨ok_iload_n hx hb rfl dd_X3_tellingYear_52, ?_⟩
  refine List.forall_mem_cons.mpr ⟨ok_iload hx hb dd_X3_tellingYear_53, ?_⟩
  refine List.forall_mem_cons.mpr ⟨ok_ishr hx hb dd_X3_tellingYear_55, ?_⟩
  refine List.forall_mem_cons.mpr ⟨ok_iconst hx hb dd_X3_tellingYear_56 (by decide), ?_⟩
  refine List.forall_mem_cons.mpr ⟨ok_iand hx hb dd_X3_tellingYear_57, ?_⟩
  refine List.forall_mem_cons.mpr ⟨ok_iconst hx hb dd_X3_tellingYear_58 (by decide), ?_⟩
  refine List.forall_mem_cons.mpr ⟨ok_icmp_ne hx hb dd_X3_tellingYear_59 (by decide), ?_⟩
  refine List.forall_mem_cons.mpr ⟨ok_aload_n hx hb rfl dd_X3_tellingYear_62, ?_⟩
  refine List.forall_mem_cons.mpr ⟨ok_iload hx hb dd_X3_tellingYear_63, ?_⟩
  refine List.forall_mem_cons.mpr ⟨ok_iload_n hx hb rfl dd_X3_tellingYear_65, ?_⟩
  refine List.forall_mem_cons.mpr ⟨ok_iload_n hx hb rfl dd_X3_tellingYear_66, ?_⟩
  refine List.forall_mem_cons.mpr ⟨ok_iload hx hb dd_X3_tellingYear_67, ?_⟩
  refine List.forall_mem_cons.mpr ⟨ok_callV (n := 4) zc_X3 rv_X3_wouldBind C0 (h_X3_wouldBind (d + 3) (by omega)) (by decide) wd_558 wd_555 wd_557 wd_26 wd_102 ⟨rfl, by decide +kernel, by decide +kernel, by decide +kernel⟩ dd_X3_tellingYear_69, ?_⟩
  refine List.forall_mem_cons.mpr ⟨ok_if_eq hx hb dd_X3_tellingYear_72 (by decide), ?_⟩
  refine List.forall_mem_cons.mpr ⟨ok_iinc hx hb dd_X3_tellingYear_75 (by decide), ?_⟩
  refine List.forall_mem_cons.mpr ⟨ok_iinc hx hb dd_X3_tellingYear_78 (by decide), ?_⟩
  refine List.forall_mem_cons.mpr ⟨ok_goto hx hb dd_X3_tellingYear_81 (by decide), ?_⟩
  refine List.forall_mem_cons.mpr ⟨ok_iload hx hb dd_X3_tellingYear_84, ?_⟩
  refine List.forall_mem_cons.mpr ⟨ok_iload hx hb dd_X3_tellingYear_86, ?_⟩
  refine List.forall_mem_cons.mpr ⟨ok_iload hx hb dd_X3_tellingYear_88, ?_⟩
  refine List.forall_mem_cons.mpr ⟨ok_isub hx hb dd_X3_tellingYear_90, ?_⟩
  refine List.forall_mem_cons.mpr ⟨ok_mmax hx hb hml hown (hts _ wd_592) (hts _ wd_593) (hts _ wd_109) (hts _ wd_594) ⟨by omega, by omega⟩ ⟨hc1, hc2⟩ dd_X3_tellingYear_91, ?_⟩
  refine List.forall_mem_cons.mpr ⟨ok_istore hx hb dd_X3_tellingYear_94, ?_⟩
  refine List.forall_mem_cons.mpr ⟨ok_iload hx hb dd_X3_tellingYear_96, ?_⟩
  refine List.forall_mem_cons.mpr ⟨ok_iload hx hb dd_X3_tellingYear_98, ?_⟩
  refine List.forall_mem_cons.mpr ⟨ok_icmp_ge hx hb dd_X3_tellingYear_100 (by decide), ?_⟩
  refine List.forall_mem_cons.mpr ⟨ok_iload hx hb dd_X3_tellingYear_103, ?_⟩
  refine List.forall_mem_cons.mpr ⟨ok_istore hx hb dd_X3_tellingYear_105, ?_⟩
  refine List.forall_mem_cons.mpr ⟨ok_iload hx hb dd_X3_tellingYear_107, ?_⟩
  refine List.forall_mem_cons.mpr ⟨ok_istore hx hb dd_X3_tellingYear_109, ?_⟩
  refine List.forall_mem_cons.mpr ⟨ok_iinc hx hb dd_X3_tellingYear_111 (by decide), ?_⟩
  refine List.forall_mem_cons.mpr ⟨ok_goto hx hb dd_X3_tellingYear_114 (by decide), ?_⟩
  refine List.forall_mem_cons.mpr ⟨ok_iload hx hb dd_X3_tellingYear_117, ?_⟩
  refine List.forall_mem_cons.mpr ⟨ok_iret hx hb hr hlocks hQ dd_X3_tellingYear_119, ?_⟩
  exact fun _ h => absurd h List.not_mem_nil
set_option maxRecDepth 100000 in
theorem vc_X3_tellingYear_0 {kd : Nat → Nat} {K : zK} {X : zX} (hX : ∀ (n pc : Nat) (ls : zLS) (st : List zV) (M : zM), zrun (tb_X3_tellingYear kd K) [(19, [8, 9]), (45, [])] n X pc ls st M → X pc ls st M) {t : Nat} {n : Int32} {c : Int32} {i : Int32} {M : zM} (hk0 : kd t = 3) (h : (0 ≤ n.toInt ∧ n.toInt < 64) ∧ ∀ v1 : Int32, (v1.toInt = pc6 n.toInt) → X 19 [some (zR t 0), some (zI (n)), some (zI (c)), some (zI (i)), some (zI (v1)), some (zI ((7 : Int32))), some (zI ((-1 : Int32))), some (zI (M.1 t 0 6)), none, none] [] M) : X 0 [some (zR t 0), some (zI (n)), some (zI (c)), some (zI (i)), none, none, none, none, none, none] [] M := hX 12 0 _ [] M (show (0 ≤ n.toInt ∧ n.toInt < 64) ∧ ∀ v1 : Int32, (v1.toInt = pc6 n.toInt) → (kd t = 3) ∧ X 19 [some (zR t 0), some (zI (n)), some (zI (c)), some (zI (i)), some (zI (v1)), some (zI ((7 : Int32))), some (zI ((-1 : Int32))), some (zI (M.1 t 0 6)), none, none] [] M from ⟨h.1, have h := h.2; fun v1 => have h := h v1; fun q => have h := h q; ⟨hk0, h⟩⟩)
set_option maxRecDepth 100000 in
theorem vc_X3_tellingYear_19 {kd : Nat → Nat} {K : zK} {X : zX} (hX : ∀ (n pc : Nat) (ls : zLS) (st : List zV) (M : zM), zrun (tb_X3_tellingYear kd K) [(19, [8, 9]), (45, [])] n X pc ls st M → X pc ls st M) {t : Nat} {n : Int32} {c : Int32} {i : Int32} {w : Int32} {e : Int32} {b : Int32} {y : Int32} {M : zM} (hk0 : kd t = 3) (h : ((((M.1 t 0 6) + (99 : Int32)) < y) → K (some (zI (b))) M) ∧ ((¬ ((M.1 t 0 6) + (99 : Int32)) < y) → (((999 : Int32) < y) → K (some (zI (b))) M) ∧ ((¬ (999 : Int32) < y) → X 45 [some (zR t 0), some (zI (n)), some (zI (c)), some (zI (i)), some (zI (w)), some (zI (e)), some (zI (b)), some (zI (y)), some (zI ((0 : Int32))), some (zI ((0 : Int32)))] [] M))) : X 19 [some (zR t 0), some (zI (n)), some (zI (c)), some (zI (i)), some (zI (w)), some (zI (e)), some (zI (b)), some (zI (y)), none, none] [] M := hX 15 19 _ [] M (show (kd t = 3) ∧ ((((M.1 t 0 6) + (99 : Int32)) < y) → K (some (zI (b))) M) ∧ ((¬ ((M.1 t 0 6) + (99 : Int32)) < y) → (((999 : Int32) < y) → K (some (zI (b))) M) ∧ ((¬ (999 : Int32) < y) → X 45 [some (zR t 0), some (zI (n)), some (zI (c)), some (zI (i)), some (zI (w)), some (zI (e)), some (zI (b)), some (zI (y)), some (zI ((0 : Int32))), some (zI ((0 : Int32)))] [] M)) from ⟨hk0, ⟨fun q => have h := h.1 q; h, fun q => have h := h.2 q; ⟨fun q => have h := h.1 q; h, fun q => have h := h.2 q; h⟩⟩⟩)
set_option maxRecDepth 100000 in
theorem vc_X3_tellingYear_45 {kd : Nat → Nat} {K : zK} {X : zX} (hX : ∀ (n pc : Nat) (ls : zLS) (st : List zV) (M : zM), zrun (tb_X3_tellingYear kd K) [(19, [8, 9]), (45, [])] n X pc ls st M → X pc ls st M) {t : Nat} {n : Int32} {c : Int32} {i : Int32} {w : Int32} {e : Int32} {b : Int32} {y : Int32} {s : Int32} {k : Int32} {M : zM} (hk0 : kd t = 3) (h : (((6 : Int32) ≤ k) → ((e ≤ (if s < (w - s) then (w - s) else s)) → X 19 [some (zR t 0), some (zI (n)), some (zI (c)), some (zI (i)), some (zI (w)), some (zI (e)), some (zI (b)), some (zI (y + 1)), none, none] [] M) ∧ ((¬ e ≤ (if s < (w - s) then (w - s) else s)) → X 19 [some (zR t 0), some (zI (n)), some (zI (c)), some (zI (i)), some (zI (w)), some (zI (if s < (w - s) then (w - s) else s)), some (zI (y)), some (zI (y + 1)), none, none] [] M)) ∧ ((¬ (6 : Int32) ≤ k) → ((¬ ((n >>> (k &&& 31)) &&& (1 : Int32)) = (1 : Int32)) → X 45 [some (zR t 0), some (zI (n)), some (zI (c)), some (zI (i)), some (zI (w)), some (zI (e)), some (zI (b)), some (zI (y)), some (zI (s)), some (zI (k + 1))] [] M) ∧ ((((n >>> (k &&& 31)) &&& (1 : Int32)) = (1 : Int32)) → ∃ a1 : Sk, (RpS (M.1 t) a1) ∧ ∃ l1 : Ly, (sk_at a1 c.toInt i.toInt = some l1) ∧ (0 ≤ y.toInt ∧ y.toInt < 1000000) ∧ ∀ v1 : Int32, (v1 = zp (bnd k.toInt l1 (sk_at a1 c.toInt (i.toInt + 1)) y.toInt = true)) → ((v1 = 0) → X 45 [some (zR t 0), some (zI (n)), some (zI (c)), some (zI (i)), some (zI (w)), some (zI (e)), some (zI (b)), some (zI (y)), some (zI (s)), some (zI (k + 1))] [] M) ∧ ((¬ v1 = 0) → X 45 [some (zR t 0), some (zI (n)), some (zI (c)), some (zI (i)), some (zI (w)), some (zI (e)), some (zI (b)), some (zI (y)), some (zI (s + 1)), some (zI (k + 1))] [] M)))) : X 45 [some (zR t 0), some (zI (n)), some (zI (c)), some (zI (i)), some (zI (w)), some (zI (e)), some (zI (b)), some (zI (y)), some (zI (s)), some (zI (k))] [] M := hX 22 45 _ [] M (show (((6 : Int32) ≤ k) → ((e ≤ (if s < (w - s) then (w - s) else s)) → X 19 [some (zR t 0), some (zI (n)), some (zI (c)), some (zI (i)), some (zI (w)), some (zI (e)), some (zI (b)), some (zI (y + 1)), none, none] [] M) ∧ ((¬ e ≤ (if s < (w - s) then (w - s) else s)) → X 19 [some (zR t 0), some (zI (n)), some (zI (c)), some (zI (i)), some (zI (w)), some (zI (if s < (w - s) then (w - s) else s)), some (zI (y)), some (zI (y + 1)), none, none] [] M)) ∧ ((¬ (6 : Int32) ≤ k) → ((¬ ((n >>> (k &&& 31)) &&& (1 : Int32)) = (1 : Int32)) → X 45 [some (zR t 0), some (zI (n)), some (zI (c)), some (zI (i)), some (zI (w)), some (zI (e)), some (zI (b)), some (zI (y)), some (zI (s)), some (zI (k + 1))] [] M) ∧ ((((n >>> (k &&& 31)) &&& (1 : Int32)) = (1 : Int32)) → (kd t = 3) ∧ ∃ a1 : Sk, (RpS (M.1 t) a1) ∧ ∃ l1 : Ly, (sk_at a1 c.toInt i.toInt = some l1) ∧ (0 ≤ y.toInt ∧ y.toInt < 1000000) ∧ ∀ v1 : Int32, (v1 = zp (bnd k.toInt l1 (sk_at a1 c.toInt (i.toInt + 1)) y.toInt = true)) → ((v1 = 0) → X 45 [some (zR t 0), some (zI (n)), some (zI (c)), some (zI (i)), some (zI (w)), some (zI (e)), some (zI (b)), some (zI (y)), some (zI (s)), some (zI (k + 1))] [] M) ∧ ((¬ v1 = 0) → X 45 [some (zR t 0), some (zI (n)), some (zI (c)), some (zI (i)), some (zI (w)), some (zI (e)), some (zI (b)), some (zI (y)), some (zI (s + 1)), some (zI (k + 1))] [] M))) from ⟨fun q => have h := h.1 q; ⟨fun q => have h := h.1 q; h, fun q => have h := h.2 q; h⟩, fun q => have h := h.2 q; ⟨fun q => have h := h.1 q; h, fun q => have h := h.2 q; ⟨hk0, h.elim (fun a1 h => ⟨a1, ⟨h.1, have h := h.2; h.elim (fun l1 h => ⟨l1, ⟨h.1, have h := h.2; ⟨h.1, have h := h.2; fun v1 => have h := h v1; fun q => have h := h q; ⟨fun q => have h := h.1 q; h, fun q => have h := h.2 q; h⟩⟩⟩⟩)⟩⟩)⟩⟩⟩)
def sp_X3_mixed : zSpec := fun kd as M K => match as with
  | [.inr (.inr (.inl (t, 0))), .inr (.inl p)] => (kd t = 3) ∧ ∃ a : Sk, (RpS (M.1 t) a) ∧ ∀ v : Int64, (v = sk_mix a p) → K (some (.inr (.inl v))) M
  | _ => False
theorem rv_X3_mixed : zrv sp_X3_mixed 3 1 := by
  intro kd as M K h
  unfold sp_X3_mixed at h
  split at h
  · exact ⟨_, _, rfl, h.1⟩
  · exact h.elim
theorem dd_X3_mixed_0 : decode cX3_mixed 0 = .ok (.lload_n 1, 1) := by decide +kernel
theorem dd_X3_mixed_1 : decode cX3_mixed 1 = .ok (.lstore_n 3, 1) := by decide +kernel
theorem dd_X3_mixed_2 : decode cX3_mixed 2 = .ok (.iconst 0, 1) := by decide +kernel
theorem dd_X3_mixed_3 : decode cX3_mixed 3 = .ok (.istore 5, 2) := by decide +kernel
theorem dd_X3_mixed_5 : decode cX3_mixed 5 = .ok (.iload 5, 2) := by decide +kernel
theorem dd_X3_mixed_7 : decode cX3_mixed 7 = .ok (.bipush 6, 2) := by decide +kernel
theorem dd_X3_mixed_9 : decode cX3_mixed 9 = .ok (.if_icmp .ge 82, 3) := by decide +kernel
theorem dd_X3_mixed_12 : decode cX3_mixed 12 = .ok (.lload_n 3, 1) := by decide +kernel
theorem dd_X3_mixed_13 : decode cX3_mixed 13 = .ok (.aload_n 0, 1) := by decide +kernel
theorem dd_X3_mixed_14 : decode cX3_mixed 14 = .ok (.getfield 9, 3) := by decide +kernel
theorem dd_X3_mixed_17 : decode cX3_mixed 17 = .ok (.iload 5, 2) := by decide +kernel
theorem dd_X3_mixed_19 : decode cX3_mixed 19 = .ok (.iaload, 1) := by decide +kernel
theorem dd_X3_mixed_20 : decode cX3_mixed 20 = .ok (.i2l, 1) := by decide +kernel
theorem dd_X3_mixed_21 : decode cX3_mixed 21 = .ok (.invokestatic 112, 3) := by decide +kernel
theorem dd_X3_mixed_24 : decode cX3_mixed 24 = .ok (.lstore_n 3, 1) := by decide +kernel
theorem dd_X3_mixed_25 : decode cX3_mixed 25 = .ok (.iconst 0, 1) := by decide +kernel
theorem dd_X3_mixed_26 : decode cX3_mixed 26 = .ok (.istore 6, 2) := by decide +kernel
theorem dd_X3_mixed_28 : decode cX3_mixed 28 = .ok (.iload 6, 2) := by decide +kernel
theorem dd_X3_mixed_30 : decode cX3_mixed 30 = .ok (.iconst 4, 1) := by decide +kernel
theorem dd_X3_mixed_31 : decode cX3_mixed 31 = .ok (.if_icmp .ge 54, 3) := by decide +kernel
theorem dd_X3_mixed_34 : decode cX3_mixed 34 = .ok (.aload_n 0, 1) := by decide +kernel
theorem dd_X3_mixed_35 : decode cX3_mixed 35 = .ok (.iload 5, 2) := by decide +kernel
theorem dd_X3_mixed_37 : decode cX3_mixed 37 = .ok (.iload 6, 2) := by decide +kernel
theorem dd_X3_mixed_39 : decode cX3_mixed 39 = .ok (.invokevirtual 40, 3) := by decide +kernel
theorem dd_X3_mixed_42 : decode cX3_mixed 42 = .ok (.istore 7, 2) := by decide +kernel
theorem dd_X3_mixed_44 : decode cX3_mixed 44 = .ok (.iconst 0, 1) := by decide +kernel
theorem dd_X3_mixed_45 : decode cX3_mixed 45 = .ok (.istore 8, 2) := by decide +kernel
theorem dd_X3_mixed_47 : decode cX3_mixed 47 = .ok (.iload 7, 2) := by decide +kernel
theorem dd_X3_mixed_49 : decode cX3_mixed 49 = .ok (.iconst (-1), 1) := by decide +kernel
theorem dd_X3_mixed_50 : decode cX3_mixed 50 = .ok (.if_icmp .eq 29, 3) := by decide +kernel
theorem dd_X3_mixed_53 : decode cX3_mixed 53 = .ok (.iload 8, 2) := by decide +kernel
theorem dd_X3_mixed_55 : decode cX3_mixed 55 = .ok (.iconst 4, 1) := by decide +kernel
theorem dd_X3_mixed_56 : decode cX3_mixed 56 = .ok (.if_icmp .gt 23, 3) := by decide +kernel
theorem dd_X3_mixed_59 : decode cX3_mixed 59 = .ok (.lload_n 3, 1) := by decide +kernel
theorem dd_X3_mixed_60 : decode cX3_mixed 60 = .ok (.aload_n 0, 1) := by decide +kernel
theorem dd_X3_mixed_61 : decode cX3_mixed 61 = .ok (.iload 7, 2) := by decide +kernel
theorem dd_X3_mixed_63 : decode cX3_mixed 63 = .ok (.iload 8, 2) := by decide +kernel
theorem dd_X3_mixed_65 : decode cX3_mixed 65 = .ok (.invokevirtual 116, 3) := by decide +kernel
theorem dd_X3_mixed_68 : decode cX3_mixed 68 = .ok (.i2l, 1) := by decide +kernel
theorem dd_X3_mixed_69 : decode cX3_mixed 69 = .ok (.invokestatic 112, 3) := by decide +kernel
theorem dd_X3_mixed_72 : decode cX3_mixed 72 = .ok (.lstore_n 3, 1) := by decide +kernel
theorem dd_X3_mixed_73 : decode cX3_mixed 73 = .ok (.iinc 8 1, 3) := by decide +kernel
theorem dd_X3_mixed_76 : decode cX3_mixed 76 = .ok (.goto (-29), 3) := by decide +kernel
theorem dd_X3_mixed_79 : decode cX3_mixed 79 = .ok (.iinc 6 1, 3) := by decide +kernel
theorem dd_X3_mixed_82 : decode cX3_mixed 82 = .ok (.goto (-54), 3) := by decide +kernel
theorem dd_X3_mixed_85 : decode cX3_mixed 85 = .ok (.iinc 5 1, 3) := by decide +kernel
theorem dd_X3_mixed_88 : decode cX3_mixed 88 = .ok (.goto (-83), 3) := by decide +kernel
theorem dd_X3_mixed_91 : decode cX3_mixed 91 = .ok (.lload_n 3, 1) := by decide +kernel
theorem dd_X3_mixed_92 : decode cX3_mixed 92 = .ok (.lreturn, 1) := by decide +kernel
def tb_X3_mixed (kd : Nat → Nat) (K : zK) : zTab := [(0, zt_lload 1 1), (1, zt_lstore 3 2), (2, zt_const (zI 0) 3), (3, zt_istore 5 5), (5, zt_iload 5 7), (7, zt_const (zI 6) 9), (9, zt_icmp (fun x y => y ≤ x) (fun x y => ¬ y ≤ x) 91 12), (12, zt_lload 3 13), (13, zt_aload 0 14), (14, zt_getR kd 3 0 1 17), (17, zt_iload 5 19), (19, zt_ald kd 0 20), (20, zt_un (fun x => zL x.toInt64) 21), (21, zt_call kd sp_X7_mix 2 24), (24, zt_lstore 3 25), (25, zt_const (zI 0) 26), (26, zt_istore 6 28), (28, zt_iload 6 30), (30, zt_const (zI 4) 31), (31, zt_icmp (fun x y => y ≤ x) (fun x y => ¬ y ≤ x) 85 34), (34, zt_aload 0 35), (35, zt_iload 5 37), (37, zt_iload 6 39), (39, zt_call kd sp_X3_slot 3 42), (42, zt_istore 7 44), (44, zt_const (zI 0) 45), (45, zt_istore 8 47), (47, zt_iload 7 49), (49, zt_const (zI (-1)) 50), (50, zt_icmp (fun x y => x = y) (fun x y => ¬ x = y) 79 53), (53, zt_iload 8 55), (55, zt_const (zI 4) 56), (56, zt_icmp (fun x y => y < x) (fun x y => ¬ y < x) 79 59), (59, zt_lload 3 60), (60, zt_aload 0 61), (61, zt_iload 7 63), (63, zt_iload 8 65), (65, zt_call kd sp_X3_field 3 68), (68, zt_un (fun x => zL x.toInt64) 69), (69, zt_call kd sp_X7_mix 2 72), (72, zt_lstore 3 73), (73, zt_iinc 8 1 76), (76, zt_goto 47), (79, zt_iinc 6 1 82), (82, zt_goto 28), (85, zt_iinc 5 1 88), (88, zt_goto 5), (91, zt_lload 3 92), (92, zt_lret K)]
set_option maxRecDepth 20000 in
theorem tk_X3_mixed (d : Nat) (h_X7_mix : zMS 1 yX7_mix cX7_mix 4 (some .long) sp_X7_mix) (h_X3_slot : zMS 1 yX3_slot cX3_slot 3 (some .int) sp_X3_slot) (h_X3_field : zMS 1 yX3_field cX3_field 3 (some .int) sp_X3_field) : zTrue RX3 cX3_mixed 9 (some .long) (d + 2) (fun kd K => tb_X3_mixed kd K) := by
  intro p l e R s m args below meth c D cy A ad bl Qm K C0 hr hlocks hQ
  obtain ⟨hx, hb, hml, hown, hts, hK, hD, hA0, hN, hE, ⟨hR1, hR2⟩, hc1, hc2⟩ := id C0
  unfold tb_X3_mixed
  refine List.forall_mem_cons.mpr ⟨ok_lload_n hx hb rfl dd_X3_mixed_0, ?_⟩
  refine List.forall_mem_cons.mpr ⟨ok_lstore_n hx hb rfl dd_X3_mixed_1, ?_⟩
  refine List.forall_mem_cons.mpr ⟨ok_iconst hx hb dd_X3_mixed_2 (by decide), ?_⟩
  refine List.forall_mem_cons.mpr ⟨ok_istore hx hb dd_X3_mixed_3, ?_⟩
  refine List.forall_mem_cons.mpr ⟨ok_iload hx hb dd_X3_mixed_5, ?_⟩
  refine List.forall_mem_cons.mpr ⟨ok_bipush hx hb dd_X3_mixed_7 (by decide), ?_⟩
  refine List.forall_mem_cons.mpr ⟨ok_icmp_ge hx hb dd_X3_mixed_9 (by decide), ?_⟩
  refine List.forall_mem_cons.mpr ⟨ok_lload_n hx hb rfl dd_X3_mixed_12, ?_⟩
  refine List.forall_mem_cons.mpr ⟨ok_aload_n hx hb rfl dd_X3_mixed_13, ?_⟩
  refine List.forall_mem_cons.mpr ⟨ok_getR (j := 0) hx hb hts zi_X3 hown hK zc_X3 (by decide) rfl (fun t fl h => by cases h; rfl) (hts _ wd_136) dd_X3_mixed_14, ?_⟩
  refine List.forall_mem_cons.mpr ⟨ok_iload hx hb dd_X3_mixed_17, ?_⟩
  refine List.forall_mem_cons.mpr ⟨ok_ald (ty := 0) rfl hx hb hK (Or.inl ⟨rfl, rfl, dd_X3_mixed_19⟩), ?_⟩
  refine List.forall_mem_cons.mpr ⟨ok_i2l hx hb dd_X3_mixed_20, ?_⟩
  refine List.forall_mem_cons.mpr ⟨ok_callSN (n := 2) C0 (h_X7_mix (d + 1) (by omega)) (by decide) wd_818 nd_824 wd_817 wd_100 ⟨by decide +kernel, by decide +kernel, by decide +kernel⟩ dd_X3_mixed_21, ?_⟩
  refine List.forall_mem_cons.mpr ⟨ok_lstore_n hx hb rfl dd_X3_mixed_24, ?_⟩
  refine List.forall_mem_cons.mpr ⟨ok_iconst hx hb dd_X3_mixed_25 (by decide), ?_⟩
  refine List.forall_mem_cons.mpr ⟨ok_istore hx hb dd_X3_mixed_26, ?_⟩
  refine List.forall_mem_cons.mpr ⟨ok_iload hx hb dd_X3_mixed_28, ?_⟩
  refine List.forall_mem_cons.mpr ⟨ok_iconst hx hb dd_X3_mixed_30 (by decide), ?_⟩
  refine List.forall_mem_cons.mpr ⟨ok_icmp_ge hx hb dd_X3_mixed_31 (by decide), ?_⟩
  refine List.forall_mem_cons.mpr ⟨ok_aload_n hx hb rfl dd_X3_mixed_34, ?_⟩
  refine List.forall_mem_cons.mpr ⟨ok_iload hx hb dd_X3_mixed_35, ?_⟩
  refine List.forall_mem_cons.mpr ⟨ok_iload hx hb dd_X3_mixed_37, ?_⟩
  refine List.forall_mem_cons.mpr ⟨ok_callV (n := 2) zc_X3 rv_X3_slot C0 (h_X3_slot (d + 1) (by omega)) (by decide) wd_341 wd_338 wd_340 wd_6 wd_102 ⟨rfl, by decide +kernel, by decide +kernel, by decide +kernel⟩ dd_X3_mixed_39, ?_⟩
  refine List.forall_mem_cons.mpr ⟨ok_istore hx hb dd_X3_mixed_42, ?_⟩
  refine List.forall_mem_cons.mpr ⟨ok_iconst hx hb dd_X3_mixed_44 (by decide), ?_⟩
  refine List.forall_mem_cons.mpr ⟨ok_istore hx hb dd_X3_mixed_45, ?_⟩
  refine List.forall_mem_cons.mpr ⟨ok_iload hx hb dd_X3_mixed_47, ?_⟩
  refine List.forall_mem_cons.mpr ⟨ok_iconst hx hb dd_X3_mixed_49 (by decide), ?_⟩
  refine List.forall_mem_cons.mpr ⟨ok_icmp_eq hx hb dd_X3_mixed_50 (by decide), ?_⟩
  refine List.forall_mem_cons.mpr ⟨ok_iload hx hb dd_X3_mixed_53, ?_⟩
  refine List.forall_mem_cons.mpr ⟨ok_iconst hx hb dd_X3_mixed_55 (by decide), ?_⟩
  refine List.forall_mem_cons.mpr ⟨ok_icmp_gt hx hb dd_X3_mixed_56 (by decide), ?_⟩
  refine List.forall_mem_cons.mpr ⟨ok_lload_n hx hb rfl dd_X3_mixed_59, ?_⟩
  refine List.forall_mem_cons.mpr ⟨ok_aload_n hx hb rfl dd_X3_mixed_60, ?_⟩
  refine List.forall_mem_cons.mpr ⟨ok_iload hx hb dd_X3_mixed_61, ?_⟩
  refine List.forall_mem_cons.mpr ⟨ok_iload hx hb dd_X3_mixed_63, ?_⟩
  refine List.forall_mem_cons.mpr ⟨ok_callV (n := 2) zc_X3 rv_X3_field C0 (h_X3_field (d + 1) (by omega)) (by decide) wd_539 wd_825 wd_538 wd_23 wd_102 ⟨rfl, by decide +kernel, by decide +kernel, by decide +kernel⟩ dd_X3_mixed_65, ?_⟩
  refine List.forall_mem_cons.mpr ⟨ok_i2l hx hb dd_X3_mixed_68, ?_⟩
  refine List.forall_mem_cons.mpr ⟨ok_callSN (n := 2) C0 (h_X7_mix (d + 1) (by omega)) (by decide) wd_818 nd_824 wd_817 wd_100 ⟨by decide +kernel, by decide +kernel, by decide +kernel⟩ dd_X3_mixed_69, ?_⟩
  refine List.forall_mem_cons.mpr ⟨ok_lstore_n hx hb rfl dd_X3_mixed_72, ?_⟩
  refine List.forall_mem_cons.mpr ⟨ok_iinc hx hb dd_X3_mixed_73 (by decide), ?_⟩
  refine List.forall_mem_cons.mpr ⟨ok_goto hx hb dd_X3_mixed_76 (by decide), ?_⟩
  refine List.forall_mem_cons.mpr ⟨ok_iinc hx hb dd_X3_mixed_79 (by decide), ?_⟩
  refine List.forall_mem_cons.mpr ⟨ok_goto hx hb dd_X3_mixed_82 (by decide), ?_⟩
  refine List.forall_mem_cons.mpr ⟨ok_iinc hx hb dd_X3_mixed_85 (by decide), ?_⟩
  refine List.forall_mem_cons.mpr ⟨ok_goto hx hb dd_X3_mixed_88 (by decide), ?_⟩
  refine List.forall_mem_cons.mpr ⟨ok_lload_n hx hb rfl dd_X3_mixed_91, ?_⟩
  refine List.forall_mem_cons.mpr ⟨ok_lret hx hb hr hlocks hQ dd_X3_mixed_92, ?_⟩
  exact fun _ h => absurd h List.not_mem_nil
set_option maxRecDepth 100000 in
theorem vc_X3_mixed_0 {kd : Nat → Nat} {K : zK} {X : zX} (hX : ∀ (n pc : Nat) (ls : zLS) (st : List zV) (M : zM), zrun (tb_X3_mixed kd K) [(5, [6, 7, 8]), (28, [7, 8]), (47, [])] n X pc ls st M → X pc ls st M) {t : Nat} {p : Int64} {M : zM}  (h : X 5 [some (zR t 0), some (zL (p)), none, some (zL (p)), none, some (zI ((0 : Int32))), none, none, none] [] M) : X 0 [some (zR t 0), some (zL (p)), none, none, none, none, none, none, none] [] M := hX 6 0 _ [] M (show X 5 [some (zR t 0), some (zL (p)), none, some (zL (p)), none, some (zI ((0 : Int32))), none, none, none] [] M from h)
set_option maxRecDepth 100000 in
theorem vc_X3_mixed_5 {kd : Nat → Nat} {K : zK} {X : zX} (hX : ∀ (n pc : Nat) (ls : zLS) (st : List zV) (M : zM), zrun (tb_X3_mixed kd K) [(5, [6, 7, 8]), (28, [7, 8]), (47, [])] n X pc ls st M → X pc ls st M) {t : Nat} {p : Int64} {x : Int64} {c : Int32} {M : zM} (hk0 : kd t = 3) (h : (((6 : Int32) ≤ c) → K (some (zL (x))) M) ∧ ((¬ (6 : Int32) ≤ c) → (zin (kd t) 1 0 c) ∧ ∀ v1 : Int64, (v1 = 31 * x + ((M.1 t 1 (c).toNatClampNeg).toInt64)) → X 28 [some (zR t 0), some (zL (p)), none, some (zL (v1)), none, some (zI (c)), some (zI ((0 : Int32))), none, none] [] M)) : X 5 [some (zR t 0), some (zL (p)), none, some (zL (x)), none, some (zI (c)), none, none, none] [] M := hX 15 5 _ [] M (show (((6 : Int32) ≤ c) → K (some (zL (x))) M) ∧ ((¬ (6 : Int32) ≤ c) → (kd t = 3) ∧ (zin (kd t) 1 0 c) ∧ ∀ v1 : Int64, (v1 = 31 * x + ((M.1 t 1 (c).toNatClampNeg).toInt64)) → X 28 [some (zR t 0), some (zL (p)), none, some (zL (v1)), none, some (zI (c)), some (zI ((0 : Int32))), none, none] [] M) from ⟨fun q => have h := h.1 q; h, fun q => have h := h.2 q; ⟨hk0, ⟨h.1, have h := h.2; fun v1 => have h := h v1; fun q => have h := h q; h⟩⟩⟩)
set_option maxRecDepth 100000 in
theorem vc_X3_mixed_28 {kd : Nat → Nat} {K : zK} {X : zX} (hX : ∀ (n pc : Nat) (ls : zLS) (st : List zV) (M : zM), zrun (tb_X3_mixed kd K) [(5, [6, 7, 8]), (28, [7, 8]), (47, [])] n X pc ls st M → X pc ls st M) {t : Nat} {p : Int64} {x : Int64} {c : Int32} {i : Int32} {M : zM} (hk0 : kd t = 3) (h : (((4 : Int32) ≤ i) → X 5 [some (zR t 0), some (zL (p)), none, some (zL (x)), none, some (zI (c + 1)), none, none, none] [] M) ∧ ((¬ (4 : Int32) ≤ i) → ∃ a1 : Sk, (RpS (M.1 t) a1) ∧ ∀ v1 : Int32, (v1.toInt = if (sk_at a1 c.toInt i.toInt).isSome then 4 * c.toInt + i.toInt else -1) → X 47 [some (zR t 0), some (zL (p)), none, some (zL (x)), none, some (zI (c)), some (zI (i)), some (zI (v1)), some (zI ((0 : Int32)))] [] M)) : X 28 [some (zR t 0), some (zL (p)), none, some (zL (x)), none, some (zI (c)), some (zI (i)), none, none] [] M := hX 12 28 _ [] M (show (((4 : Int32) ≤ i) → X 5 [some (zR t 0), some (zL (p)), none, some (zL (x)), none, some (zI (c + 1)), none, none, none] [] M) ∧ ((¬ (4 : Int32) ≤ i) → (kd t = 3) ∧ ∃ a1 : Sk, (RpS (M.1 t) a1) ∧ ∀ v1 : Int32, (v1.toInt = if (sk_at a1 c.toInt i.toInt).isSome then 4 * c.toInt + i.toInt else -1) → X 47 [some (zR t 0), some (zL (p)), none, some (zL (x)), none, some (zI (c)), some (zI (i)), some (zI (v1)), some (zI ((0 : Int32)))] [] M) from ⟨fun q => have h := h.1 q; h, fun q => have h := h.2 q; ⟨hk0, h.elim (fun a1 h => ⟨a1, ⟨h.1, have h := h.2; fun v1 => have h := h v1; fun q => have h := h q; h⟩⟩)⟩⟩)
set_option maxRecDepth 100000 in
theorem vc_X3_mixed_47 {kd : Nat → Nat} {K : zK} {X : zX} (hX : ∀ (n pc : Nat) (ls : zLS) (st : List zV) (M : zM), zrun (tb_X3_mixed kd K) [(5, [6, 7, 8]), (28, [7, 8]), (47, [])] n X pc ls st M → X pc ls st M) {t : Nat} {p : Int64} {x : Int64} {c : Int32} {i : Int32} {q : Int32} {w : Int32} {M : zM} (hk0 : kd t = 3) (h : ((q = (-1 : Int32)) → X 28 [some (zR t 0), some (zL (p)), none, some (zL (x)), none, some (zI (c)), some (zI (i + 1)), none, none] [] M) ∧ ((¬ q = (-1 : Int32)) → (((4 : Int32) < w) → X 28 [some (zR t 0), some (zL (p)), none, some (zL (x)), none, some (zI (c)), some (zI (i + 1)), none, none] [] M) ∧ ((¬ (4 : Int32) < w) → ∃ a1 : Sk, (RpS (M.1 t) a1) ∧ ∃ c1 : Nat, ∃ i1 : Nat, ∃ l1 : Ly, (c1 < 6) ∧ ((a1.1 c1)[i1]? = some l1) ∧ (q.toInt = 4 * (c1 : Int) + i1) ∧ ∀ v1 : Int32, (v1.toInt = ly_f l1 w.toInt) → ∀ v2 : Int64, (v2 = 31 * x + v1.toInt64) → X 47 [some (zR t 0), some (zL (p)), none, some (zL (v2)), none, some (zI (c)), some (zI (i)), some (zI (q)), some (zI (w + 1))] [] M))) : X 47 [some (zR t 0), some (zL (p)), none, some (zL (x)), none, some (zI (c)), some (zI (i)), some (zI (q)), some (zI (w))] [] M := hX 18 47 _ [] M (show ((q = (-1 : Int32)) → X 28 [some (zR t 0), some (zL (p)), none, some (zL (x)), none, some (zI (c)), some (zI (i + 1)), none, none] [] M) ∧ ((¬ q = (-1 : Int32)) → (((4 : Int32) < w) → X 28 [some (zR t 0), some (zL (p)), none, some (zL (x)), none, some (zI (c)), some (zI (i + 1)), none, none] [] M) ∧ ((¬ (4 : Int32) < w) → (kd t = 3) ∧ ∃ a1 : Sk, (RpS (M.1 t) a1) ∧ ∃ c1 : Nat, ∃ i1 : Nat, ∃ l1 : Ly, (c1 < 6) ∧ ((a1.1 c1)[i1]? = some l1) ∧ (q.toInt = 4 * (c1 : Int) + i1) ∧ ∀ v1 : Int32, (v1.toInt = ly_f l1 w.toInt) → ∀ v2 : Int64, (v2 = 31 * x + v1.toInt64) → X 47 [some (zR t 0), some (zL (p)), none, some (zL (v2)), none, some (zI (c)), some (zI (i)), some (zI (q)), some (zI (w + 1))] [] M)) from ⟨fun q => have h := h.1 q; h, fun q => have h := h.2 q; ⟨fun q => have h := h.1 q; h, fun q => have h := h.2 q; ⟨hk0, h.elim (fun a1 h => ⟨a1, ⟨h.1, have h := h.2; h.elim (fun c1 h => ⟨c1, h.elim (fun i1 h => ⟨i1, h.elim (fun l1 h => ⟨l1, ⟨h.1, have h := h.2; ⟨h.1, have h := h.2; ⟨h.1, have h := h.2; fun v1 => have h := h v1; fun q => have h := h q; fun v2 => have h := h v2; fun q => have h := h q; h⟩⟩⟩⟩)⟩)⟩)⟩⟩)⟩⟩⟩)
