
/-! texts and their tokens -/
def RpB (S : zB) (b : List Int) : Prop := b.length ≤ 150 ∧ (S 0 1).toInt = (b.length : Int) ∧ ∀ (i : Nat) (z : Int), b[i]? = some z → (0 ≤ z ∧ z ≤ 127) ∧ (S 1 i).toInt = z
def atB (b : List Int) (p : Nat) : Int := (b[p]?).getD (-1)
def isLt (z : Int) : Bool := decide (97 ≤ z ∧ z ≤ 122)
def isFg (z : Int) : Bool := decide (48 ≤ z ∧ z ≤ 57)
def isBk (z : Int) : Bool := decide (z = 32)
def skW (P : Int → Bool) (b : List Int) (p : Nat) : Nat := p + ((b.drop p).takeWhile P).length
/-- start, kind (0 end, 1 odd, 2 ; , 3 number, 4 word), number, end -/
abbrev Tk : Type := Nat × Int × Int × Nat
def dig2 (b : List Int) (s e : Nat) : Int := if e - s ≤ 1 then atB b s - 48 else (atB b s - 48) * 10 + (atB b (s + 1) - 48)
def tokS (b : List Int) (s : Nat) : Tk := if isLt (atB b s) then (s, 4, 0, skW isLt b s) else if isFg (atB b s) then (s, if skW isFg b s - s ≤ 2 then 3 else 1, dig2 b s (skW isFg b s), skW isFg b s) else if atB b s = -1 then (s, 0, 0, s) else (s, if atB b s = 59 then 2 else 1, 0, s + 1)
def tok (b : List Int) (p : Nat) : Tk := tokS b (skW isBk b p)
def RpK (S : zB) (b : List Int) (T : Tk) : Prop := RpB S b ∧ (S 0 2).toInt = (T.2.2.2 : Int) ∧ (S 0 3).toInt = (T.1 : Int) ∧ (S 0 4).toInt = T.2.1 ∧ (T.2.1 = 3 → (S 0 5).toInt = T.2.2.1) ∧ T.1 ≤ T.2.2.2 ∧ T.2.2.2 ≤ b.length
def wdI (w : Nat) : List Int := (zsbyt.getD (w - 20) []).map Int32.toInt
def isWd (b : List Int) (T : Tk) (w : Nat) : Bool := decide (T.2.1 = 4) && decide ((b.drop T.1).take (T.2.2.2 - T.1) = wdI w)
def numIs (T : Tk) (lo hi : Int) : Bool := decide (T.2.1 = 3) && decide (lo ≤ T.2.2.1 ∧ T.2.2.1 ≤ hi)
def sp_J0_coder_7d493 : zSpec := fun kd as M K => match as with
  | [.inr (.inr (.inl (t, 0)))] => (20 ≤ t ∧ t < 24) ∧ ∀ v : Int32, (v = 0) → K (some (.inl v)) M
  | _ => False
theorem rv_J0_coder_7d493 : zrvS sp_J0_coder_7d493 := by
  intro kd as M K h
  unfold sp_J0_coder_7d493 at h
  split at h
  · exact ⟨_, _, rfl, h.1⟩
  · exact h.elim
theorem dd_J0_coder_7d493_0 : decode cJ0_coder_7d493 0 = .ok (.getstatic 38, 3) := by decide +kernel
theorem dd_J0_coder_7d493_3 : decode cJ0_coder_7d493 3 = .ok (.ifCond .eq 10, 3) := by decide +kernel
theorem dd_J0_coder_7d493_6 : decode cJ0_coder_7d493 6 = .ok (.aload_n 0, 1) := by decide +kernel
theorem dd_J0_coder_7d493_7 : decode cJ0_coder_7d493 7 = .ok (.getfield 15, 3) := by decide +kernel
theorem dd_J0_coder_7d493_10 : decode cJ0_coder_7d493 10 = .ok (.goto 4, 3) := by decide +kernel
theorem dd_J0_coder_7d493_13 : decode cJ0_coder_7d493 13 = .ok (.iconst 1, 1) := by decide +kernel
theorem dd_J0_coder_7d493_14 : decode cJ0_coder_7d493 14 = .ok (.ireturn, 1) := by decide +kernel
def tb_J0_coder_7d493 (kd : Nat → Nat) (K : zK) : zTab := [(0, zt_const (zI 1) 3), (3, zt_if (fun x => x = 0) (fun x => ¬ x = 0) 13 6), (6, zt_aload 0 7), (7, zt_scod 10), (10, zt_goto 14), (13, zt_const (zI 1) 14), (14, zt_nret .byte K)]
set_option maxRecDepth 20000 in
theorem tk_J0_coder_7d493 (d : Nat)  : zTrue RJ0 cJ0_coder_7d493 1 (some .byte) (d + 1) (fun kd K => tb_J0_coder_7d493 kd K) := by
  intro p l e R s m args below meth c D cy A ad bl Qm K C0 hr hlocks hQ
  obtain ⟨hx, hb, hml, hown, hts, hK, hD, hA0, hN, hE, ⟨hR1, hR2⟩, hc1, hc2⟩ := id C0
  unfold tb_J0_coder_7d493
  refine List.forall_mem_cons.mpr ⟨ok_compact hx hb hown hE (hts _ wd_454) dd_J0_coder_7d493_0, ?_⟩
  refine List.forall_mem_cons.mpr ⟨ok_if_eq hx hb dd_J0_coder_7d493_3 (by decide), ?_⟩
  refine List.forall_mem_cons.mpr ⟨ok_aload_n hx hb rfl dd_J0_coder_7d493_6, ?_⟩
  refine List.forall_mem_cons.mpr ⟨ok_scod hx hb hown hE (hts _ wd_1250) dd_J0_coder_7d493_7, ?_⟩
  refine List.forall_mem_cons.mpr ⟨ok_goto hx hb dd_J0_coder_7d493_10 (by decide), ?_⟩
  refine List.forall_mem_cons.mpr ⟨ok_iconst hx hb dd_J0_coder_7d493_13 (by decide), ?_⟩
  refine List.forall_mem_cons.mpr ⟨ok_nret hx hb hr hlocks hQ dd_J0_coder_7d493_14, ?_⟩
  exact fun _ h => absurd h List.not_mem_nil
set_option maxRecDepth 100000 in
theorem vc_J0_coder_7d493_0 {kd : Nat → Nat} {K : zK} {X : zX} (hX : ∀ (n pc : Nat) (ls : zLS) (st : List zV) (M : zM), zrun (tb_J0_coder_7d493 kd K) [] n X pc ls st M → X pc ls st M) {t : Nat} {M : zM}  (h : (20 ≤ t ∧ t < 24) ∧ (narrow .byte (.int (0 : Int32)) = .int (0 : Int32)) ∧ K (some (zI ((0 : Int32)))) M) : X 0 [some (zR t 0)] [] M := hX 7 0 _ [] M (show (((1 : Int32) = 0) → (narrow .byte (.int (1 : Int32)) = .int (1 : Int32)) ∧ K (some (zI ((1 : Int32)))) M) ∧ ((¬ (1 : Int32) = 0) → (20 ≤ t ∧ t < 24) ∧ (narrow .byte (.int (0 : Int32)) = .int (0 : Int32)) ∧ K (some (zI ((0 : Int32)))) M) from ⟨fun q => absurd q (by decide), fun _ => ⟨h.1, have h := h.2; ⟨h.1, have h := h.2; h⟩⟩⟩)
def sp_J0_length_8abf5 : zSpec := fun kd as M K => match as with
  | [.inr (.inr (.inl (t, 0)))] => (20 ≤ t ∧ t < 24) ∧ ∀ v : Int32, (v = nI (zslen.getD (t - 20) 0)) → K (some (.inl v)) M
  | _ => False
theorem rv_J0_length_8abf5 : zrvS sp_J0_length_8abf5 := by
  intro kd as M K h
  unfold sp_J0_length_8abf5 at h
  split at h
  · exact ⟨_, _, rfl, h.1⟩
  · exact h.elim
theorem dd_J0_length_8abf5_0 : decode cJ0_length_8abf5 0 = .ok (.aload_n 0, 1) := by decide +kernel
theorem dd_J0_length_8abf5_1 : decode cJ0_length_8abf5 1 = .ok (.getfield 9, 3) := by decide +kernel
theorem dd_J0_length_8abf5_4 : decode cJ0_length_8abf5 4 = .ok (.arraylength, 1) := by decide +kernel
theorem dd_J0_length_8abf5_5 : decode cJ0_length_8abf5 5 = .ok (.aload_n 0, 1) := by decide +kernel
theorem dd_J0_length_8abf5_6 : decode cJ0_length_8abf5 6 = .ok (.invokevirtual 335, 3) := by decide +kernel
theorem dd_J0_length_8abf5_9 : decode cJ0_length_8abf5 9 = .ok (.ishr, 1) := by decide +kernel
theorem dd_J0_length_8abf5_10 : decode cJ0_length_8abf5 10 = .ok (.ireturn, 1) := by decide +kernel
def tb_J0_length_8abf5 (kd : Nat → Nat) (K : zK) : zTab := [(0, zt_aload 0 1), (1, zt_sval 4), (4, zt_slen 5), (5, zt_aload 0 6), (6, zt_call kd sp_J0_coder_7d493 1 9), (9, zt_bin (fun x y => x >>> (y &&& 31)) 10), (10, zt_iret K)]
set_option maxRecDepth 20000 in
theorem tk_J0_length_8abf5 (d : Nat) (h_J0_coder_7d493 : zMS 1 yJ0_coder_7d493 cJ0_coder_7d493 1 (some .byte) sp_J0_coder_7d493) : zTrue RJ0 cJ0_length_8abf5 1 (some .int) (d + 2) (fun kd K => tb_J0_length_8abf5 kd K) := by
  intro p l e R s m args below meth c D cy A ad bl Qm K C0 hr hlocks hQ
  obtain ⟨hx, hb, hml, hown, hts, hK, hD, hA0, hN, hE, ⟨hR1, hR2⟩, hc1, hc2⟩ := id C0
  unfold tb_J0_length_8abf5
  refine List.forall_mem_cons.mpr ⟨ok_aload_n hx hb rfl dd_J0_length_8abf5_0, ?_⟩
  refine List.forall_mem_cons.mpr ⟨ok_sval hx hb hown hE (hts _ wd_1249) dd_J0_length_8abf5_1, ?_⟩
  refine List.forall_mem_cons.mpr ⟨ok_slen hx hb hE dd_J0_length_8abf5_4, ?_⟩
  refine List.forall_mem_cons.mpr ⟨ok_aload_n hx hb rfl dd_J0_length_8abf5_5, ?_⟩
  refine List.forall_mem_cons.mpr ⟨ok_callVS (n := 0) rv_J0_coder_7d493 C0 (h_J0_coder_7d493 (d + 1) (by omega)) (by decide) wd_453 wd_450 wd_451 wd_452 wd_111 ⟨rfl, by decide +kernel, by decide +kernel, by decide +kernel⟩ dd_J0_length_8abf5_6, ?_⟩
  refine List.forall_mem_cons.mpr ⟨ok_ishr hx hb dd_J0_length_8abf5_9, ?_⟩
  refine List.forall_mem_cons.mpr ⟨ok_iret hx hb hr hlocks hQ dd_J0_length_8abf5_10, ?_⟩
  exact fun _ h => absurd h List.not_mem_nil
set_option maxRecDepth 100000 in
theorem vc_J0_length_8abf5_0 {kd : Nat → Nat} {K : zK} {X : zX} (hX : ∀ (n pc : Nat) (ls : zLS) (st : List zV) (M : zM), zrun (tb_J0_length_8abf5 kd K) [] n X pc ls st M → X pc ls st M) {t : Nat} {M : zM}  (h : (20 ≤ t ∧ t < 24) ∧ (20 ≤ t ∧ t < 24) ∧ (20 ≤ t ∧ t < 24) ∧ ∀ v1 : Int32, (v1 = 0) → K (some (zI ((Int32.ofNat (zslen.getD (t - 20) 0)) >>> (v1 &&& 31)))) M) : X 0 [some (zR t 0)] [] M := hX 8 0 _ [] M (show (20 ≤ t ∧ t < 24) ∧ (1 = 1) ∧ (20 ≤ t ∧ t < 24) ∧ (20 ≤ t ∧ t < 24) ∧ ∀ v1 : Int32, (v1 = 0) → K (some (zI ((Int32.ofNat (zslen.getD (t - 20) 0)) >>> (v1 &&& 31)))) M from ⟨h.1, have h := h.2; ⟨rfl, ⟨h.1, have h := h.2; ⟨h.1, have h := h.2; fun v1 => have h := h v1; fun q => have h := h q; h⟩⟩⟩⟩)
def sp_J0_isLatin1_aae02 : zSpec := fun kd as M K => match as with
  | [.inr (.inr (.inl (t, 0)))] => (20 ≤ t ∧ t < 24) ∧ ∀ v : Int32, (v = 1) → K (some (.inl v)) M
  | _ => False
theorem rv_J0_isLatin1_aae02 : zrvS sp_J0_isLatin1_aae02 := by
  intro kd as M K h
  unfold sp_J0_isLatin1_aae02 at h
  split at h
  · exact ⟨_, _, rfl, h.1⟩
  · exact h.elim
theorem dd_J0_isLatin1_aae02_0 : decode cJ0_isLatin1_aae02 0 = .ok (.getstatic 38, 3) := by decide +kernel
theorem dd_J0_isLatin1_aae02_3 : decode cJ0_isLatin1_aae02 3 = .ok (.ifCond .eq 14, 3) := by decide +kernel
theorem dd_J0_isLatin1_aae02_6 : decode cJ0_isLatin1_aae02 6 = .ok (.aload_n 0, 1) := by decide +kernel
theorem dd_J0_isLatin1_aae02_7 : decode cJ0_isLatin1_aae02 7 = .ok (.getfield 15, 3) := by decide +kernel
theorem dd_J0_isLatin1_aae02_10 : decode cJ0_isLatin1_aae02 10 = .ok (.ifCond .ne 7, 3) := by decide +kernel
theorem dd_J0_isLatin1_aae02_13 : decode cJ0_isLatin1_aae02 13 = .ok (.iconst 1, 1) := by decide +kernel
theorem dd_J0_isLatin1_aae02_14 : decode cJ0_isLatin1_aae02 14 = .ok (.goto 4, 3) := by decide +kernel
theorem dd_J0_isLatin1_aae02_17 : decode cJ0_isLatin1_aae02 17 = .ok (.iconst 0, 1) := by decide +kernel
theorem dd_J0_isLatin1_aae02_18 : decode cJ0_isLatin1_aae02 18 = .ok (.ireturn, 1) := by decide +kernel
def tb_J0_isLatin1_aae02 (kd : Nat → Nat) (K : zK) : zTab := [(0, zt_const (zI 1) 3), (3, zt_if (fun x => x = 0) (fun x => ¬ x = 0) 17 6), (6, zt_aload 0 7), (7, zt_scod 10), (10, zt_if (fun x => ¬ x = 0) (fun x => x = 0) 17 13), (13, zt_const (zI 1) 14), (14, zt_goto 18), (17, zt_const (zI 0) 18), (18, zt_zret K)]
set_option maxRecDepth 20000 in
theorem tk_J0_isLatin1_aae02 (d : Nat)  : zTrue RJ0 cJ0_isLatin1_aae02 1 (some .boolean) (d + 1) (fun kd K => tb_J0_isLatin1_aae02 kd K) := by
  intro p l e R s m args below meth c D cy A ad bl Qm K C0 hr hlocks hQ
  obtain ⟨hx, hb, hml, hown, hts, hK, hD, hA0, hN, hE, ⟨hR1, hR2⟩, hc1, hc2⟩ := id C0
  unfold tb_J0_isLatin1_aae02
  refine List.forall_mem_cons.mpr ⟨ok_compact hx hb hown hE (hts _ wd_454) dd_J0_isLatin1_aae02_0, ?_⟩
  refine List.forall_mem_cons.mpr ⟨ok_if_eq hx hb dd_J0_isLatin1_aae02_3 (by decide), ?_⟩
  refine List.forall_mem_cons.mpr ⟨ok_aload_n hx hb rfl dd_J0_isLatin1_aae02_6, ?_⟩
  refine List.forall_mem_cons.mpr ⟨ok_scod hx hb hown hE (hts _ wd_1250) dd_J0_isLatin1_aae02_7, ?_⟩
  refine List.forall_mem_cons.mpr ⟨ok_if_ne hx hb dd_J0_isLatin1_aae02_10 (by decide), ?_⟩
  refine List.forall_mem_cons.mpr ⟨ok_iconst hx hb dd_J0_isLatin1_aae02_13 (by decide), ?_⟩
  refine List.forall_mem_cons.mpr ⟨ok_goto hx hb dd_J0_isLatin1_aae02_14 (by decide), ?_⟩
  refine List.forall_mem_cons.mpr ⟨ok_iconst hx hb dd_J0_isLatin1_aae02_17 (by decide), ?_⟩
  refine List.forall_mem_cons.mpr ⟨ok_zret hx hb hr hlocks hQ dd_J0_isLatin1_aae02_18, ?_⟩
  exact fun _ h => absurd h List.not_mem_nil
set_option maxRecDepth 100000 in
theorem vc_J0_isLatin1_aae02_0 {kd : Nat → Nat} {K : zK} {X : zX} (hX : ∀ (n pc : Nat) (ls : zLS) (st : List zV) (M : zM), zrun (tb_J0_isLatin1_aae02 kd K) [] n X pc ls st M → X pc ls st M) {t : Nat} {M : zM}  (h : (20 ≤ t ∧ t < 24) ∧ K (some (zI ((1 : Int32)))) M) : X 0 [some (zR t 0)] [] M := hX 9 0 _ [] M (show (((1 : Int32) = 0) → ((0 : Int32) = 0 ∨ (0 : Int32) = 1) ∧ K (some (zI ((0 : Int32)))) M) ∧ ((¬ (1 : Int32) = 0) → (20 ≤ t ∧ t < 24) ∧ ((¬ (0 : Int32) = 0) → ((0 : Int32) = 0 ∨ (0 : Int32) = 1) ∧ K (some (zI ((0 : Int32)))) M) ∧ (((0 : Int32) = 0) → ((1 : Int32) = 0 ∨ (1 : Int32) = 1) ∧ K (some (zI ((1 : Int32)))) M)) from ⟨fun q => absurd q (by decide), fun _ => ⟨h.1, have h := h.2; ⟨fun q => absurd q (by decide), fun _ => ⟨(Or.inr rfl), h⟩⟩⟩⟩)
def sp_J3_checkIndex_8e157 : zSpec := fun kd as M K => match as with
  | [.inl i, .inl n, f] => (f = zN ∨ f = zR 30 0) ∧ (0 ≤ i.toInt ∧ i.toInt < n.toInt) ∧ ∀ v : Int32, (v = i) → K (some (.inl v)) M
  | _ => False
theorem dd_J3_checkIndex_8e157_0 : decode cJ3_checkIndex_8e157 0 = .ok (.iload_n 0, 1) := by decide +kernel
theorem dd_J3_checkIndex_8e157_1 : decode cJ3_checkIndex_8e157 1 = .ok (.ifCond .lt 8, 3) := by decide +kernel
theorem dd_J3_checkIndex_8e157_4 : decode cJ3_checkIndex_8e157 4 = .ok (.iload_n 0, 1) := by decide +kernel
theorem dd_J3_checkIndex_8e157_5 : decode cJ3_checkIndex_8e157 5 = .ok (.iload_n 1, 1) := by decide +kernel
theorem dd_J3_checkIndex_8e157_6 : decode cJ3_checkIndex_8e157 6 = .ok (.if_icmp .lt 10, 3) := by decide +kernel
theorem dd_J3_checkIndex_8e157_9 : decode cJ3_checkIndex_8e157 9 = .ok (.aload_n 2, 1) := by decide +kernel
theorem dd_J3_checkIndex_8e157_10 : decode cJ3_checkIndex_8e157 10 = .ok (.iload_n 0, 1) := by decide +kernel
theorem dd_J3_checkIndex_8e157_11 : decode cJ3_checkIndex_8e157 11 = .ok (.iload_n 1, 1) := by decide +kernel
theorem dd_J3_checkIndex_8e157_12 : decode cJ3_checkIndex_8e157 12 = .ok (.invokestatic 95, 3) := by decide +kernel
theorem dd_J3_checkIndex_8e157_15 : decode cJ3_checkIndex_8e157 15 = .ok (.athrow, 1) := by decide +kernel
theorem dd_J3_checkIndex_8e157_16 : decode cJ3_checkIndex_8e157 16 = .ok (.iload_n 0, 1) := by decide +kernel
theorem dd_J3_checkIndex_8e157_17 : decode cJ3_checkIndex_8e157 17 = .ok (.ireturn, 1) := by decide +kernel
def tb_J3_checkIndex_8e157 (kd : Nat → Nat) (K : zK) : zTab := [(0, zt_iload 0 1), (1, zt_if (fun x => x < 0) (fun x => ¬ x < 0) 9 4), (4, zt_iload 0 5), (5, zt_iload 1 6), (6, zt_icmp (fun x y => x < y) (fun x y => ¬ x < y) 16 9), (9, (fun _ _ _ _ => False)), (10, zt_iload 0 11), (11, zt_iload 1 12), (12, (fun _ _ _ _ => False)), (15, (fun _ _ _ _ => False)), (16, zt_iload 0 17), (17, zt_iret K)]
set_option maxRecDepth 20000 in
theorem tk_J3_checkIndex_8e157 (d : Nat)  : zTrue RJ3 cJ3_checkIndex_8e157 3 (some .int) (d + 1) (fun kd K => tb_J3_checkIndex_8e157 kd K) := by
  intro p l e R s m args below meth c D cy A ad bl Qm K C0 hr hlocks hQ
  obtain ⟨hx, hb, hml, hown, hts, hK, hD, hA0, hN, hE, ⟨hR1, hR2⟩, hc1, hc2⟩ := id C0
  unfold tb_J3_checkIndex_8e157
  refine List.forall_mem_cons.mpr ⟨ok_iload_n hx hb rfl dd_J3_checkIndex_8e157_0, ?_⟩
  refine List.forall_mem_cons.mpr ⟨ok_if_lt hx hb dd_J3_checkIndex_8e157_1 (by decide), ?_⟩
  refine List.forall_mem_cons.mpr ⟨ok_iload_n hx hb rfl dd_J3_checkIndex_8e157_4, ?_⟩
  refine List.forall_mem_cons.mpr ⟨ok_iload_n hx hb rfl dd_J3_checkIndex_8e157_5, ?_⟩
  refine List.forall_mem_cons.mpr ⟨ok_icmp_lt hx hb dd_J3_checkIndex_8e157_6 (by decide), ?_⟩
  refine List.forall_mem_cons.mpr ⟨ok_dead, ?_⟩
  refine List.forall_mem_cons.mpr ⟨ok_iload_n hx hb rfl dd_J3_checkIndex_8e157_10, ?_⟩
  refine List.forall_mem_cons.mpr ⟨ok_iload_n hx hb rfl dd_J3_checkIndex_8e157_11, ?_⟩
  refine List.forall_mem_cons.mpr ⟨ok_dead, ?_⟩
  refine List.forall_mem_cons.mpr ⟨ok_dead, ?_⟩
  refine List.forall_mem_cons.mpr ⟨ok_iload_n hx hb rfl dd_J3_checkIndex_8e157_16, ?_⟩
  refine List.forall_mem_cons.mpr ⟨ok_iret hx hb hr hlocks hQ dd_J3_checkIndex_8e157_17, ?_⟩
  exact fun _ h => absurd h List.not_mem_nil
set_option maxRecDepth 100000 in
theorem vc_J3_checkIndex_8e157_0 {kd : Nat → Nat} {K : zK} {X : zX} (hX : ∀ (n pc : Nat) (ls : zLS) (st : List zV) (M : zM), zrun (tb_J3_checkIndex_8e157 kd K) [] n X pc ls st M → X pc ls st M) {i : Int32} {n : Int32} {f : zV} {M : zM}  (h : ((i < 0) → False) ∧ ((¬ i < 0) → ((i < n) → K (some (zI (i))) M) ∧ ((¬ i < n) → False))) : X 0 [some (zI (i)), some (zI (n)), some (f)] [] M := hX 8 0 _ [] M (show ((i < 0) → False) ∧ ((¬ i < 0) → ((i < n) → K (some (zI (i))) M) ∧ ((¬ i < n) → False)) from ⟨fun q => have h := h.1 q; h, fun q => have h := h.2 q; ⟨fun q => have h := h.1 q; h, fun q => have h := h.2 q; h⟩⟩)
def sp_J0_checkIndex_df160 : zSpec := fun kd as M K => match as with
  | [.inl i, .inl n] => (0 ≤ i.toInt ∧ i.toInt < n.toInt) ∧ K none M
  | _ => False
theorem dd_J0_checkIndex_df160_0 : decode cJ0_checkIndex_df160 0 = .ok (.iload_n 0, 1) := by decide +kernel
theorem dd_J0_checkIndex_df160_1 : decode cJ0_checkIndex_df160 1 = .ok (.iload_n 1, 1) := by decide +kernel
theorem dd_J0_checkIndex_df160_2 : decode cJ0_checkIndex_df160 2 = .ok (.getstatic 1053, 3) := by decide +kernel
theorem dd_J0_checkIndex_df160_5 : decode cJ0_checkIndex_df160 5 = .ok (.invokestatic 1059, 3) := by decide +kernel
theorem dd_J0_checkIndex_df160_8 : decode cJ0_checkIndex_df160 8 = .ok (.pop, 1) := by decide +kernel
theorem dd_J0_checkIndex_df160_9 : decode cJ0_checkIndex_df160 9 = .ok (.return_, 1) := by decide +kernel
def tb_J0_checkIndex_df160 (kd : Nat → Nat) (K : zK) : zTab := [(0, zt_iload 0 1), (1, zt_iload 1 2), (2, zt_any 5), (5, zt_call kd sp_J3_checkIndex_8e157 3 8), (8, zt_pop 9), (9, zt_vret K)]
set_option maxRecDepth 20000 in
theorem tk_J0_checkIndex_df160 (d : Nat) (h_J3_checkIndex_8e157 : zMS 1 yJ3_checkIndex_8e157 cJ3_checkIndex_8e157 3 (some .int) sp_J3_checkIndex_8e157) : zTrue RJ0 cJ0_checkIndex_df160 2 none (d + 2) (fun kd K => tb_J0_checkIndex_df160 kd K) := by
  intro p l e R s m args below meth c D cy A ad bl Qm K C0 hr hlocks hQ
  obtain ⟨hx, hb, hml, hown, hts, hK, hD, hA0, hN, hE, ⟨hR1, hR2⟩, hc1, hc2⟩ := id C0
  unfold tb_J0_checkIndex_df160
  refine List.forall_mem_cons.mpr ⟨ok_iload_n hx hb rfl dd_J0_checkIndex_df160_0, ?_⟩
  refine List.forall_mem_cons.mpr ⟨ok_iload_n hx hb rfl dd_J0_checkIndex_df160_1, ?_⟩
  refine List.forall_mem_cons.mpr ⟨ok_any hx hb hown hE (hts _ wd_470) dd_J0_checkIndex_df160_2, ?_⟩
  refine List.forall_mem_cons.mpr ⟨ok_callS (n := 3) C0 (h_J3_checkIndex_8e157 (d + 1) (by omega)) (by decide) wd_474 wd_472 wd_473 wd_113 ⟨by decide +kernel, by decide +kernel, by decide +kernel⟩ dd_J0_checkIndex_df160_5, ?_⟩
  refine List.forall_mem_cons.mpr ⟨ok_pop hx hb dd_J0_checkIndex_df160_8, ?_⟩
  refine List.forall_mem_cons.mpr ⟨ok_vret hx hb hr hlocks hQ dd_J0_checkIndex_df160_9, ?_⟩
  exact fun _ h => absurd h List.not_mem_nil
set_option maxRecDepth 100000 in
theorem vc_J0_checkIndex_df160_0 {kd : Nat → Nat} {K : zK} {X : zX} (hX : ∀ (n pc : Nat) (ls : zLS) (st : List zV) (M : zM), zrun (tb_J0_checkIndex_df160 kd K) [] n X pc ls st M → X pc ls st M) {i : Int32} {n : Int32} {M : zM}  (h : ((zN = zN ∨ zN = zR 30 0) ∧ (0 ≤ i.toInt ∧ i.toInt < n.toInt) ∧ ∀ v1 : Int32, (v1 = i) → K none M) ∧ (((zR 30 0) = zN ∨ (zR 30 0) = zR 30 0) ∧ (0 ≤ i.toInt ∧ i.toInt < n.toInt) ∧ ∀ v2 : Int32, (v2 = i) → K none M)) : X 0 [some (zI (i)), some (zI (n))] [] M := hX 7 0 _ [] M (show ((zN = zN ∨ zN = zR 30 0) ∧ (0 ≤ i.toInt ∧ i.toInt < n.toInt) ∧ ∀ v1 : Int32, (v1 = i) → K none M) ∧ (((zR 30 0) = zN ∨ (zR 30 0) = zR 30 0) ∧ (0 ≤ i.toInt ∧ i.toInt < n.toInt) ∧ ∀ v2 : Int32, (v2 = i) → K none M) from ⟨have h := h.1; ⟨h.1, have h := h.2; ⟨h.1, have h := h.2; fun v1 => have h := h v1; fun q => have h := h q; h⟩⟩, have h := h.2; ⟨h.1, have h := h.2; ⟨h.1, have h := h.2; fun v2 => have h := h v2; fun q => have h := h q; h⟩⟩⟩)
def sp_J1_charAt_3b067 : zSpec := fun kd as M K => match as with
  | [.inr (.inr (.inl (t, o))), .inl i] => (20 ≤ t ∧ t < 24) ∧ (o = 1) ∧ (0 ≤ i.toInt ∧ i.toInt < (zslen.getD (t - 20) 0 : Nat)) ∧ ∀ v : Int32, (v = (zsbyt.getD (t - 20) []).getD i.toInt.toNat 0) → K (some (.inl v)) M
  | _ => False
theorem dd_J1_charAt_3b067_0 : decode cJ1_charAt_3b067 0 = .ok (.iload_n 1, 1) := by decide +kernel
theorem dd_J1_charAt_3b067_1 : decode cJ1_charAt_3b067 1 = .ok (.aload_n 0, 1) := by decide +kernel
theorem dd_J1_charAt_3b067_2 : decode cJ1_charAt_3b067 2 = .ok (.arraylength, 1) := by decide +kernel
theorem dd_J1_charAt_3b067_3 : decode cJ1_charAt_3b067 3 = .ok (.invokestatic 9, 3) := by decide +kernel
theorem dd_J1_charAt_3b067_6 : decode cJ1_charAt_3b067 6 = .ok (.aload_n 0, 1) := by decide +kernel
theorem dd_J1_charAt_3b067_7 : decode cJ1_charAt_3b067 7 = .ok (.iload_n 1, 1) := by decide +kernel
theorem dd_J1_charAt_3b067_8 : decode cJ1_charAt_3b067 8 = .ok (.baload, 1) := by decide +kernel
theorem dd_J1_charAt_3b067_9 : decode cJ1_charAt_3b067 9 = .ok (.sipush 255, 3) := by decide +kernel
theorem dd_J1_charAt_3b067_12 : decode cJ1_charAt_3b067 12 = .ok (.iand, 1) := by decide +kernel
theorem dd_J1_charAt_3b067_13 : decode cJ1_charAt_3b067 13 = .ok (.i2c, 1) := by decide +kernel
theorem dd_J1_charAt_3b067_14 : decode cJ1_charAt_3b067 14 = .ok (.ireturn, 1) := by decide +kernel
def tb_J1_charAt_3b067 (kd : Nat → Nat) (K : zK) : zTab := [(0, zt_iload 1 1), (1, zt_aload 0 2), (2, zt_slen 3), (3, zt_call kd sp_J0_checkIndex_df160 2 6), (6, zt_aload 0 7), (7, zt_iload 1 8), (8, zt_sby 9), (9, zt_const (zI 255) 12), (12, zt_bin (fun x y => x &&& y) 13), (13, zt_un (fun x => zI (x.toUInt32 % 65536).toInt32) 14), (14, zt_nret .char K)]
set_option maxRecDepth 20000 in
theorem tk_J1_charAt_3b067 (d : Nat) (h_J0_checkIndex_df160 : zMS 2 yJ0_checkIndex_df160 cJ0_checkIndex_df160 2 none sp_J0_checkIndex_df160) : zTrue RJ1 cJ1_charAt_3b067 2 (some .char) (d + 3) (fun kd K => tb_J1_charAt_3b067 kd K) := by
  intro p l e R s m args below meth c D cy A ad bl Qm K C0 hr hlocks hQ
  obtain ⟨hx, hb, hml, hown, hts, hK, hD, hA0, hN, hE, ⟨hR1, hR2⟩, hc1, hc2⟩ := id C0
  unfold tb_J1_charAt_3b067
  refine List.forall_mem_cons.mpr ⟨ok_iload_n hx hb rfl dd_J1_charAt_3b067_0, ?_⟩
  refine List.forall_mem_cons.mpr ⟨ok_aload_n hx hb rfl dd_J1_charAt_3b067_1, ?_⟩
  refine List.forall_mem_cons.mpr ⟨ok_slen hx hb hE dd_J1_charAt_3b067_2, ?_⟩
  refine List.forall_mem_cons.mpr ⟨ok_callS (n := 2) C0 (h_J0_checkIndex_df160 (d + 2) (by omega)) (by decide) wd_469 wd_467 wd_468 wd_111 ⟨by decide +kernel, by decide +kernel, by decide +kernel⟩ dd_J1_charAt_3b067_3, ?_⟩
  refine List.forall_mem_cons.mpr ⟨ok_aload_n hx hb rfl dd_J1_charAt_3b067_6, ?_⟩
  refine List.forall_mem_cons.mpr ⟨ok_iload_n hx hb rfl dd_J1_charAt_3b067_7, ?_⟩
  refine List.forall_mem_cons.mpr ⟨ok_sby hx hb hE dd_J1_charAt_3b067_8, ?_⟩
  refine List.forall_mem_cons.mpr ⟨ok_sipush hx hb dd_J1_charAt_3b067_9 (by decide), ?_⟩
  refine List.forall_mem_cons.mpr ⟨ok_iand hx hb dd_J1_charAt_3b067_12, ?_⟩
  refine List.forall_mem_cons.mpr ⟨ok_i2c hx hb dd_J1_charAt_3b067_13, ?_⟩
  refine List.forall_mem_cons.mpr ⟨ok_nret hx hb hr hlocks hQ dd_J1_charAt_3b067_14, ?_⟩
  exact fun _ h => absurd h List.not_mem_nil
set_option maxRecDepth 100000 in
theorem vc_J1_charAt_3b067_0 {kd : Nat → Nat} {K : zK} {X : zX} (hX : ∀ (n pc : Nat) (ls : zLS) (st : List zV) (M : zM), zrun (tb_J1_charAt_3b067 kd K) [] n X pc ls st M → X pc ls st M) {t o : Nat} {i : Int32} {M : zM}  (h : (o = 1) ∧ (20 ≤ t ∧ t < 24) ∧ (0 ≤ i.toInt ∧ i.toInt < (Int32.ofNat (zslen.getD (t - 20) 0)).toInt) ∧ (o = 1) ∧ (20 ≤ t ∧ t < 24) ∧ (vp_in i (zslen.getD (t - 20) 0)) ∧ (narrow .char (.int (((((zsbyt.getD (t - 20) []).getD (i).toNatClampNeg 0) &&& (255 : Int32)).toUInt32 % 65536).toInt32)) = .int (((((zsbyt.getD (t - 20) []).getD (i).toNatClampNeg 0) &&& (255 : Int32)).toUInt32 % 65536).toInt32)) ∧ K (some (zI (((((zsbyt.getD (t - 20) []).getD (i).toNatClampNeg 0) &&& (255 : Int32)).toUInt32 % 65536).toInt32))) M) : X 0 [some (zR t o), some (zI (i))] [] M := hX 12 0 _ [] M (show (o = 1) ∧ (20 ≤ t ∧ t < 24) ∧ (0 ≤ i.toInt ∧ i.toInt < (Int32.ofNat (zslen.getD (t - 20) 0)).toInt) ∧ (o = 1) ∧ (20 ≤ t ∧ t < 24) ∧ (vp_in i (zslen.getD (t - 20) 0)) ∧ (narrow .char (.int (((((zsbyt.getD (t - 20) []).getD (i).toNatClampNeg 0) &&& (255 : Int32)).toUInt32 % 65536).toInt32)) = .int (((((zsbyt.getD (t - 20) []).getD (i).toNatClampNeg 0) &&& (255 : Int32)).toUInt32 % 65536).toInt32)) ∧ K (some (zI (((((zsbyt.getD (t - 20) []).getD (i).toNatClampNeg 0) &&& (255 : Int32)).toUInt32 % 65536).toInt32))) M from ⟨h.1, have h := h.2; ⟨h.1, have h := h.2; ⟨h.1, have h := h.2; ⟨h.1, have h := h.2; ⟨h.1, have h := h.2; ⟨h.1, have h := h.2; ⟨h.1, have h := h.2; h⟩⟩⟩⟩⟩⟩⟩)
def sp_J2_charAt_3b067 : zSpec := fun kd as M K => match as with
  | [.inr (.inr (.inl (t, o))), .inl i] => (False) ∧ ∀ v : Int32, (True) → K (some (.inl v)) M
  | _ => False
def sp_J0_charAt_5068e : zSpec := fun kd as M K => match as with
  | [.inr (.inr (.inl (t, 0))), .inl i] => (20 ≤ t ∧ t < 24) ∧ (0 ≤ i.toInt ∧ i.toInt < (zslen.getD (t - 20) 0 : Nat)) ∧ ∀ v : Int32, (v = (zsbyt.getD (t - 20) []).getD i.toInt.toNat 0) → K (some (.inl v)) M
  | _ => False
theorem rv_J0_charAt_5068e : zrvS sp_J0_charAt_5068e := by
  intro kd as M K h
  unfold sp_J0_charAt_5068e at h
  split at h
  · exact ⟨_, _, rfl, h.1⟩
  · exact h.elim
theorem dd_J0_charAt_5068e_0 : decode cJ0_charAt_5068e 0 = .ok (.aload_n 0, 1) := by decide +kernel
theorem dd_J0_charAt_5068e_1 : decode cJ0_charAt_5068e 1 = .ok (.invokevirtual 492, 3) := by decide +kernel
theorem dd_J0_charAt_5068e_4 : decode cJ0_charAt_5068e 4 = .ok (.ifCond .eq 12, 3) := by decide +kernel
theorem dd_J0_charAt_5068e_7 : decode cJ0_charAt_5068e 7 = .ok (.aload_n 0, 1) := by decide +kernel
theorem dd_J0_charAt_5068e_8 : decode cJ0_charAt_5068e 8 = .ok (.getfield 9, 3) := by decide +kernel
theorem dd_J0_charAt_5068e_11 : decode cJ0_charAt_5068e 11 = .ok (.iload_n 1, 1) := by decide +kernel
theorem dd_J0_charAt_5068e_12 : decode cJ0_charAt_5068e 12 = .ok (.invokestatic 495, 3) := by decide +kernel
theorem dd_J0_charAt_5068e_15 : decode cJ0_charAt_5068e 15 = .ok (.ireturn, 1) := by decide +kernel
theorem dd_J0_charAt_5068e_16 : decode cJ0_charAt_5068e 16 = .ok (.aload_n 0, 1) := by decide +kernel
theorem dd_J0_charAt_5068e_17 : decode cJ0_charAt_5068e 17 = .ok (.getfield 9, 3) := by decide +kernel
theorem dd_J0_charAt_5068e_20 : decode cJ0_charAt_5068e 20 = .ok (.iload_n 1, 1) := by decide +kernel
theorem dd_J0_charAt_5068e_21 : decode cJ0_charAt_5068e 21 = .ok (.invokestatic 498, 3) := by decide +kernel
theorem dd_J0_charAt_5068e_24 : decode cJ0_charAt_5068e 24 = .ok (.ireturn, 1) := by decide +kernel
def tb_J0_charAt_5068e (kd : Nat → Nat) (K : zK) : zTab := [(0, zt_aload 0 1), (1, zt_call kd sp_J0_isLatin1_aae02 1 4), (4, zt_if (fun x => x = 0) (fun x => ¬ x = 0) 16 7), (7, zt_aload 0 8), (8, zt_sval 11), (11, zt_iload 1 12), (12, zt_call kd sp_J1_charAt_3b067 2 15), (15, zt_nret .char K), (16, zt_aload 0 17), (17, zt_sval 20), (20, zt_iload 1 21), (21, zt_call kd sp_J2_charAt_3b067 2 24), (24, zt_nret .char K)]
set_option maxRecDepth 20000 in
theorem tk_J0_charAt_5068e (d : Nat) (h_J0_isLatin1_aae02 : zMS 1 yJ0_isLatin1_aae02 cJ0_isLatin1_aae02 1 (some .boolean) sp_J0_isLatin1_aae02) (h_J1_charAt_3b067 : zMS 3 yJ1_charAt_3b067 cJ1_charAt_3b067 2 (some .char) sp_J1_charAt_3b067) (h_J2_charAt_3b067 : zMS 1 yJ2_charAt_3b067 cJ2_charAt_3b067 2 (some .char) sp_J2_charAt_3b067) : zTrue RJ0 cJ0_charAt_5068e 2 (some .char) (d + 4) (fun kd K => tb_J0_charAt_5068e kd K) := by
  intro p l e R s m args below meth c D cy A ad bl Qm K C0 hr hlocks hQ
  obtain ⟨hx, hb, hml, hown, hts, hK, hD, hA0, hN, hE, ⟨hR1, hR2⟩, hc1, hc2⟩ := id C0
  unfold tb_J0_charAt_5068e
  refine List.forall_mem_cons.mpr ⟨ok_aload_n hx hb rfl dd_J0_charAt_5068e_0, ?_⟩
  refine List.forall_mem_cons.mpr ⟨ok_callVS (n := 0) rv_J0_isLatin1_aae02 C0 (h_J0_isLatin1_aae02 (d + 3) (by omega)) (by decide) wd_463 wd_460 wd_461 wd_462 wd_111 ⟨rfl, by decide +kernel, by decide +kernel, by decide +kernel⟩ dd_J0_charAt_5068e_1, ?_⟩
  refine List.forall_mem_cons.mpr ⟨ok_if_eq hx hb dd_J0_charAt_5068e_4 (by decide), ?_⟩
  refine List.forall_mem_cons.mpr ⟨ok_aload_n hx hb rfl dd_J0_charAt_5068e_7, ?_⟩
  refine List.forall_mem_cons.mpr ⟨ok_sval hx hb hown hE (hts _ wd_1249) dd_J0_charAt_5068e_8, ?_⟩
  refine List.forall_mem_cons.mpr ⟨ok_iload_n hx hb rfl dd_J0_charAt_5068e_11, ?_⟩
  refine List.forall_mem_cons.mpr ⟨ok_callS (n := 2) C0 (h_J1_charAt_3b067 (d + 3) (by omega)) (by decide) wd_466 wd_464 wd_465 wd_112 ⟨by decide +kernel, by decide +kernel, by decide +kernel⟩ dd_J0_charAt_5068e_12, ?_⟩
  refine List.forall_mem_cons.mpr ⟨ok_nret hx hb hr hlocks hQ dd_J0_charAt_5068e_15, ?_⟩
  refine List.forall_mem_cons.mpr ⟨ok_aload_n hx hb rfl dd_J0_charAt_5068e_16, ?_⟩
  refine List.forall_mem_cons.mpr ⟨ok_sval hx hb hown hE (hts _ wd_1249) dd_J0_charAt_5068e_17, ?_⟩
  refine List.forall_mem_cons.mpr ⟨ok_iload_n hx hb rfl dd_J0_charAt_5068e_20, ?_⟩
  refine List.forall_mem_cons.mpr ⟨ok_callS (n := 2) C0 (h_J2_charAt_3b067 (d + 3) (by omega)) (by decide) wd_477 wd_475 wd_476 wd_114 ⟨by decide +kernel, by decide +kernel, by decide +kernel⟩ dd_J0_charAt_5068e_21, ?_⟩
  refine List.forall_mem_cons.mpr ⟨ok_nret hx hb hr hlocks hQ dd_J0_charAt_5068e_24, ?_⟩
  exact fun _ h => absurd h List.not_mem_nil
set_option maxRecDepth 100000 in
theorem vc_J0_charAt_5068e_0 {kd : Nat → Nat} {K : zK} {X : zX} (hX : ∀ (n pc : Nat) (ls : zLS) (st : List zV) (M : zM), zrun (tb_J0_charAt_5068e kd K) [] n X pc ls st M → X pc ls st M) {t : Nat} {i : Int32} {M : zM}  (h : (20 ≤ t ∧ t < 24) ∧ ∀ v1 : Int32, (v1 = 1) → ((v1 = 0) → (20 ≤ t ∧ t < 24) ∧ (False) ∧ ∀ v2 : Int32, (True) → (narrow .char (.int v2) = .int v2) ∧ K (some (zI (v2))) M) ∧ ((¬ v1 = 0) → (20 ≤ t ∧ t < 24) ∧ (20 ≤ t ∧ t < 24) ∧ (1 = 1) ∧ (0 ≤ i.toInt ∧ i.toInt < (zslen.getD (t - 20) 0 : Nat)) ∧ ∀ v3 : Int32, (v3 = (zsbyt.getD (t - 20) []).getD i.toInt.toNat 0) → (narrow .char (.int v3) = .int v3) ∧ K (some (zI (v3))) M)) : X 0 [some (zR t 0), some (zI (i))] [] M := hX 9 0 _ [] M (show (20 ≤ t ∧ t < 24) ∧ ∀ v1 : Int32, (v1 = 1) → ((v1 = 0) → (20 ≤ t ∧ t < 24) ∧ (False) ∧ ∀ v2 : Int32, (True) → (narrow .char (.int v2) = .int v2) ∧ K (some (zI (v2))) M) ∧ ((¬ v1 = 0) → (20 ≤ t ∧ t < 24) ∧ (20 ≤ t ∧ t < 24) ∧ (1 = 1) ∧ (0 ≤ i.toInt ∧ i.toInt < (zslen.getD (t - 20) 0 : Nat)) ∧ ∀ v3 : Int32, (v3 = (zsbyt.getD (t - 20) []).getD i.toInt.toNat 0) → (narrow .char (.int v3) = .int v3) ∧ K (some (zI (v3))) M) from ⟨h.1, have h := h.2; fun v1 => have h := h v1; fun q => have h := h q; ⟨fun q => have h := h.1 q; ⟨h.1, have h := h.2; ⟨h.1, have h := h.2; fun v2 => have h := h v2; fun q => have h := h q; ⟨h.1, have h := h.2; h⟩⟩⟩, fun q => have h := h.2 q; ⟨h.1, have h := h.2; ⟨h.1, have h := h.2; ⟨h.1, have h := h.2; ⟨h.1, have h := h.2; fun v3 => have h := h v3; fun q => have h := h q; ⟨h.1, have h := h.2; h⟩⟩⟩⟩⟩⟩⟩)
def sp_X5_add : zSpec := fun kd as M K => match as with
  | [.inr (.inr (.inl (t, 0))), .inl c] => (kd t = 7) ∧ ∃ b : List Int, (RpB (M.1 t) b) ∧ (b.length < 150) ∧ (0 ≤ c.toInt ∧ c.toInt ≤ 127) ∧ ∀ v : Int32, (v.toInt = (b.length : Int) + 1) → ∀ S' : zB, (RpB S' (b ++ [c.toInt])) → ∀ M' : zM, (M' = zbs M t S') → K (some (.inl v)) M'
  | _ => False
theorem rv_X5_add : zrv sp_X5_add 7 1 := by
  intro kd as M K h
  unfold sp_X5_add at h
  split at h
  · exact ⟨_, _, rfl, h.1⟩
  · exact h.elim
theorem dd_X5_add_0 : decode cX5_add 0 = .ok (.aload_n 0, 1) := by decide +kernel
theorem dd_X5_add_1 : decode cX5_add 1 = .ok (.getfield 15, 3) := by decide +kernel
theorem dd_X5_add_4 : decode cX5_add 4 = .ok (.ifCond .lt 34, 3) := by decide +kernel
theorem dd_X5_add_7 : decode cX5_add 7 = .ok (.aload_n 0, 1) := by decide +kernel
theorem dd_X5_add_8 : decode cX5_add 8 = .ok (.getfield 15, 3) := by decide +kernel
theorem dd_X5_add_11 : decode cX5_add 11 = .ok (.sipush 150, 3) := by decide +kernel
theorem dd_X5_add_14 : decode cX5_add 14 = .ok (.if_icmp .ge 24, 3) := by decide +kernel
theorem dd_X5_add_17 : decode cX5_add 17 = .ok (.aload_n 0, 1) := by decide +kernel
theorem dd_X5_add_18 : decode cX5_add 18 = .ok (.getfield 9, 3) := by decide +kernel
theorem dd_X5_add_21 : decode cX5_add 21 = .ok (.aload_n 0, 1) := by decide +kernel
theorem dd_X5_add_22 : decode cX5_add 22 = .ok (.getfield 15, 3) := by decide +kernel
theorem dd_X5_add_25 : decode cX5_add 25 = .ok (.iload_n 1, 1) := by decide +kernel
theorem dd_X5_add_26 : decode cX5_add 26 = .ok (.i2b, 1) := by decide +kernel
theorem dd_X5_add_27 : decode cX5_add 27 = .ok (.bastore, 1) := by decide +kernel
theorem dd_X5_add_28 : decode cX5_add 28 = .ok (.aload_n 0, 1) := by decide +kernel
theorem dd_X5_add_29 : decode cX5_add 29 = .ok (.dup, 1) := by decide +kernel
theorem dd_X5_add_30 : decode cX5_add 30 = .ok (.getfield 15, 3) := by decide +kernel
theorem dd_X5_add_33 : decode cX5_add 33 = .ok (.iconst 1, 1) := by decide +kernel
theorem dd_X5_add_34 : decode cX5_add 34 = .ok (.iadd, 1) := by decide +kernel
theorem dd_X5_add_35 : decode cX5_add 35 = .ok (.putfield 15, 3) := by decide +kernel
theorem dd_X5_add_38 : decode cX5_add 38 = .ok (.aload_n 0, 1) := by decide +kernel
theorem dd_X5_add_39 : decode cX5_add 39 = .ok (.getfield 15, 3) := by decide +kernel
theorem dd_X5_add_42 : decode cX5_add 42 = .ok (.ireturn, 1) := by decide +kernel
def tb_X5_add (kd : Nat → Nat) (K : zK) : zTab := [(0, zt_aload 0 1), (1, zt_getI kd 7 1 4), (4, zt_if (fun x => x < 0) (fun x => ¬ x < 0) 38 7), (7, zt_aload 0 8), (8, zt_getI kd 7 1 11), (11, zt_const (zI 150) 14), (14, zt_icmp (fun x y => y ≤ x) (fun x y => ¬ y ≤ x) 38 17), (17, zt_aload 0 18), (18, zt_getR kd 7 0 1 21), (21, zt_aload 0 22), (22, zt_getI kd 7 1 25), (25, zt_iload 1 26), (26, zt_un (fun x => zI x.toInt8.toInt32) 27), (27, zt_ast kd 1 28), (28, zt_aload 0 29), (29, zt_dup 30), (30, zt_getI kd 7 1 33), (33, zt_const (zI 1) 34), (34, zt_bin (fun x y => x + y) 35), (35, zt_putI kd 7 1 38), (38, zt_aload 0 39), (39, zt_getI kd 7 1 42), (42, zt_iret K)]
set_option maxRecDepth 20000 in
theorem tk_X5_add (d : Nat)  : zTrue RX5 cX5_add 2 (some .int) (d + 1) (fun kd K => tb_X5_add kd K) := by
  intro p l e R s m args below meth c D cy A ad bl Qm K C0 hr hlocks hQ
  obtain ⟨hx, hb, hml, hown, hts, hK, hD, hA0, hN, hE, ⟨hR1, hR2⟩, hc1, hc2⟩ := id C0
  unfold tb_X5_add
  refine List.forall_mem_cons.mpr ⟨ok_aload_n hx hb rfl dd_X5_add_0, ?_⟩
  refine List.forall_mem_cons.mpr ⟨ok_getI (j := 1) hx hb hts zi_X5 hown hK zc_X5 (by decide) rfl (fun t fl h => by cases h; rfl) (hts _ wd_248) dd_X5_add_1, ?_⟩
  refine List.forall_mem_cons.mpr ⟨ok_if_lt hx hb dd_X5_add_4 (by decide), ?_⟩
  refine List.forall_mem_cons.mpr ⟨ok_aload_n hx hb rfl dd_X5_add_7, ?_⟩
  refine List.forall_mem_cons.mpr ⟨ok_getI (j := 1) hx hb hts zi_X5 hown hK zc_X5 (by decide) rfl (fun t fl h => by cases h; rfl) (hts _ wd_248) dd_X5_add_8, ?_⟩
  refine List.forall_mem_cons.mpr ⟨ok_sipush hx hb dd_X5_add_11 (by decide), ?_⟩
  refine List.forall_mem_cons.mpr ⟨ok_icmp_ge hx hb dd_X5_add_14 (by decide), ?_⟩
  refine List.forall_mem_cons.mpr ⟨ok_aload_n hx hb rfl dd_X5_add_17, ?_⟩
  refine List.forall_mem_cons.mpr ⟨ok_getR (j := 0) hx hb hts zi_X5 hown hK zc_X5 (by decide) rfl (fun t fl h => by cases h; rfl) (hts _ wd_247) dd_X5_add_18, ?_⟩
  refine List.forall_mem_cons.mpr ⟨ok_aload_n hx hb rfl dd_X5_add_21, ?_⟩
  refine List.forall_mem_cons.mpr ⟨ok_getI (j := 1) hx hb hts zi_X5 hown hK zc_X5 (by decide) rfl (fun t fl h => by cases h; rfl) (hts _ wd_248) dd_X5_add_22, ?_⟩
  refine List.forall_mem_cons.mpr ⟨ok_iload_n hx hb rfl dd_X5_add_25, ?_⟩
  refine List.forall_mem_cons.mpr ⟨ok_i2b hx hb dd_X5_add_26, ?_⟩
  refine List.forall_mem_cons.mpr ⟨ok_ast (ty := 1) rfl hx hb hK hD (Or.inr (Or.inl ⟨rfl, rfl, dd_X5_add_27⟩)), ?_⟩
  refine List.forall_mem_cons.mpr ⟨ok_aload_n hx hb rfl dd_X5_add_28, ?_⟩
  refine List.forall_mem_cons.mpr ⟨ok_dup hx hb dd_X5_add_29, ?_⟩
  refine List.forall_mem_cons.mpr ⟨ok_getI (j := 1) hx hb hts zi_X5 hown hK zc_X5 (by decide) rfl (fun t fl h => by cases h; rfl) (hts _ wd_248) dd_X5_add_30, ?_⟩
  refine List.forall_mem_cons.mpr ⟨ok_iconst hx hb dd_X5_add_33 (by decide), ?_⟩
  refine List.forall_mem_cons.mpr ⟨ok_iadd hx hb dd_X5_add_34, ?_⟩
  refine List.forall_mem_cons.mpr ⟨ok_putI (j := 1) hx hb hts zi_X5 tyX5 tyX5_ok nmX5 hown hK hD zc_X5 (by decide) rfl rfl (by decide +kernel) (fun t fl h => by cases h; rfl) (hts _ wd_248) dd_X5_add_35, ?_⟩
  refine List.forall_mem_cons.mpr ⟨ok_aload_n hx hb rfl dd_X5_add_38, ?_⟩
  refine List.forall_mem_cons.mpr ⟨ok_getI (j := 1) hx hb hts zi_X5 hown hK zc_X5 (by decide) rfl (fun t fl h => by cases h; rfl) (hts _ wd_248) dd_X5_add_39, ?_⟩
  refine List.forall_mem_cons.mpr ⟨ok_iret hx hb hr hlocks hQ dd_X5_add_42, ?_⟩
  exact fun _ h => absurd h List.not_mem_nil
set_option maxRecDepth 100000 in
theorem vc_X5_add_0 {kd : Nat → Nat} {K : zK} {X : zX} (hX : ∀ (n pc : Nat) (ls : zLS) (st : List zV) (M : zM), zrun (tb_X5_add kd K) [] n X pc ls st M → X pc ls st M) {t : Nat} {c : Int32} {M : zM} (hk0 : kd t = 7) (h : (((M.1 t 0 1) < 0) → K (some (zI (M.1 t 0 1))) M) ∧ ((¬ (M.1 t 0 1) < 0) → (((150 : Int32) ≤ (M.1 t 0 1)) → K (some (zI (M.1 t 0 1))) M) ∧ ((¬ (150 : Int32) ≤ (M.1 t 0 1)) → (zin (kd t) 1 1 (M.1 t 0 1)) ∧ ∀ M1 : zM, (M1 = zmw M t 1 (upd (M.1 t 1) (M.1 t 0 1).toNatClampNeg (vp_nar .byte c.toInt8.toInt32))) → ∀ M2 : zM, (M2 = zmw M1 t 0 (upd (M1.1 t 0) 1 ((M1.1 t 0 1) + (1 : Int32)))) → K (some (zI (M2.1 t 0 1))) M2))) : X 0 [some (zR t 0), some (zI (c))] [] M := hX 24 0 _ [] M (show (kd t = 7) ∧ (((M.1 t 0 1) < 0) → (kd t = 7) ∧ K (some (zI (M.1 t 0 1))) M) ∧ ((¬ (M.1 t 0 1) < 0) → (kd t = 7) ∧ (((150 : Int32) ≤ (M.1 t 0 1)) → (kd t = 7) ∧ K (some (zI (M.1 t 0 1))) M) ∧ ((¬ (150 : Int32) ≤ (M.1 t 0 1)) → (kd t = 7) ∧ (kd t = 7) ∧ (zin (kd t) 1 1 (M.1 t 0 1)) ∧ ∀ M1 : zM, (M1 = zmw M t 1 (upd (M.1 t 1) (M.1 t 0 1).toNatClampNeg (vp_nar .byte c.toInt8.toInt32))) → (kd t = 7) ∧ (kd t = 7) ∧ ∀ M2 : zM, (M2 = zmw M1 t 0 (upd (M1.1 t 0) 1 ((M1.1 t 0 1) + (1 : Int32)))) → (kd t = 7) ∧ K (some (zI (M2.1 t 0 1))) M2)) from ⟨hk0, ⟨fun q => have h := h.1 q; ⟨hk0, h⟩, fun q => have h := h.2 q; ⟨hk0, ⟨fun q => have h := h.1 q; ⟨hk0, h⟩, fun q => have h := h.2 q; ⟨hk0, ⟨hk0, ⟨h.1, have h := h.2; fun M1 => have h := h M1; fun q => have h := h q; ⟨hk0, ⟨hk0, fun M2 => have h := h M2; fun q => have h := h q; ⟨hk0, h⟩⟩⟩⟩⟩⟩⟩⟩⟩⟩)
def sp_X5_empty : zSpec := fun kd as M K => match as with
  | [.inr (.inr (.inl (t, 0)))] => (kd t = 7) ∧ ∃ b : List Int, (RpB (M.1 t) b) ∧ ∀ v : Int32, (v.toInt = (b.length : Int)) → ∀ S' : zB, (RpB S' []) → ∀ M' : zM, (M' = zbs M t S') → K (some (.inl v)) M'
  | _ => False
theorem rv_X5_empty : zrv sp_X5_empty 7 0 := by
  intro kd as M K h
  unfold sp_X5_empty at h
  split at h
  · exact ⟨_, _, rfl, h.1⟩
  · exact h.elim
theorem dd_X5_empty_0 : decode cX5_empty 0 = .ok (.aload_n 0, 1) := by decide +kernel
theorem dd_X5_empty_1 : decode cX5_empty 1 = .ok (.getfield 15, 3) := by decide +kernel
theorem dd_X5_empty_4 : decode cX5_empty 4 = .ok (.istore_n 1, 1) := by decide +kernel
theorem dd_X5_empty_5 : decode cX5_empty 5 = .ok (.aload_n 0, 1) := by decide +kernel
theorem dd_X5_empty_6 : decode cX5_empty 6 = .ok (.iconst 0, 1) := by decide +kernel
theorem dd_X5_empty_7 : decode cX5_empty 7 = .ok (.putfield 15, 3) := by decide +kernel
theorem dd_X5_empty_10 : decode cX5_empty 10 = .ok (.iload_n 1, 1) := by decide +kernel
theorem dd_X5_empty_11 : decode cX5_empty 11 = .ok (.ireturn, 1) := by decide +kernel
def tb_X5_empty (kd : Nat → Nat) (K : zK) : zTab := [(0, zt_aload 0 1), (1, zt_getI kd 7 1 4), (4, zt_istore 1 5), (5, zt_aload 0 6), (6, zt_const (zI 0) 7), (7, zt_putI kd 7 1 10), (10, zt_iload 1 11), (11, zt_iret K)]
set_option maxRecDepth 20000 in
theorem tk_X5_empty (d : Nat)  : zTrue RX5 cX5_empty 2 (some .int) (d + 1) (fun kd K => tb_X5_empty kd K) := by
  intro p l e R s m args below meth c D cy A ad bl Qm K C0 hr hlocks hQ
  obtain ⟨hx, hb, hml, hown, hts, hK, hD, hA0, hN, hE, ⟨hR1, hR2⟩, hc1, hc2⟩ := id C0
  unfold tb_X5_empty
  refine List.forall_mem_cons.mpr ⟨ok_aload_n hx hb rfl dd_X5_empty_0, ?_⟩
  refine List.forall_mem_cons.mpr ⟨ok_getI (j := 1) hx hb hts zi_X5 hown hK zc_X5 (by decide) rfl (fun t fl h => by cases h; rfl) (hts _ wd_248) dd_X5_empty_1, ?_⟩
  refine List.forall_mem_cons.mpr ⟨ok_istore_n hx hb rfl dd_X5_empty_4, ?_⟩
  refine List.forall_mem_cons.mpr ⟨ok_aload_n hx hb rfl dd_X5_empty_5, ?_⟩
  refine List.forall_mem_cons.mpr ⟨ok_iconst hx hb dd_X5_empty_6 (by decide), ?_⟩
  refine List.forall_mem_cons.mpr ⟨ok_putI (j := 1) hx hb hts zi_X5 tyX5 tyX5_ok nmX5 hown hK hD zc_X5 (by decide) rfl rfl (by decide +kernel) (fun t fl h => by cases h; rfl) (hts _ wd_248) dd_X5_empty_7, ?_⟩
  refine List.forall_mem_cons.mpr ⟨ok_iload_n hx hb rfl dd_X5_empty_10, ?_⟩
  refine List.forall_mem_cons.mpr ⟨ok_iret hx hb hr hlocks hQ dd_X5_empty_11, ?_⟩
  exact fun _ h => absurd h List.not_mem_nil
set_option maxRecDepth 100000 in
theorem vc_X5_empty_0 {kd : Nat → Nat} {K : zK} {X : zX} (hX : ∀ (n pc : Nat) (ls : zLS) (st : List zV) (M : zM), zrun (tb_X5_empty kd K) [] n X pc ls st M → X pc ls st M) {t : Nat} {M : zM} (hk0 : kd t = 7) (h : ∀ M1 : zM, (M1 = zmw M t 0 (upd (M.1 t 0) 1 (0 : Int32))) → K (some (zI (M.1 t 0 1))) M1) : X 0 [some (zR t 0), none] [] M := hX 9 0 _ [] M (show (kd t = 7) ∧ (kd t = 7) ∧ ∀ M1 : zM, (M1 = zmw M t 0 (upd (M.1 t 0) 1 (0 : Int32))) → K (some (zI (M.1 t 0 1))) M1 from ⟨hk0, ⟨hk0, fun M1 => have h := h M1; fun q => have h := h q; h⟩⟩)
def sp_X5_peek : zSpec := fun kd as M K => match as with
  | [.inr (.inr (.inl (t, 0)))] => (kd t = 7) ∧ ∃ b : List Int, (RpB (M.1 t) b) ∧ ∃ p : Nat, ((M.1 t 0 2).toInt = (p : Int)) ∧ (p ≤ b.length) ∧ ∀ v : Int32, (v.toInt = atB b p) → K (some (.inl v)) M
  | _ => False
theorem rv_X5_peek : zrv sp_X5_peek 7 0 := by
  intro kd as M K h
  unfold sp_X5_peek at h
  split at h
  · exact ⟨_, _, rfl, h.1⟩
  · exact h.elim
theorem dd_X5_peek_0 : decode cX5_peek 0 = .ok (.aload_n 0, 1) := by decide +kernel
theorem dd_X5_peek_1 : decode cX5_peek 1 = .ok (.getfield 19, 3) := by decide +kernel
theorem dd_X5_peek_4 : decode cX5_peek 4 = .ok (.ifCond .lt 36, 3) := by decide +kernel
theorem dd_X5_peek_7 : decode cX5_peek 7 = .ok (.aload_n 0, 1) := by decide +kernel
theorem dd_X5_peek_8 : decode cX5_peek 8 = .ok (.getfield 19, 3) := by decide +kernel
theorem dd_X5_peek_11 : decode cX5_peek 11 = .ok (.aload_n 0, 1) := by decide +kernel
theorem dd_X5_peek_12 : decode cX5_peek 12 = .ok (.getfield 15, 3) := by decide +kernel
theorem dd_X5_peek_15 : decode cX5_peek 15 = .ok (.if_icmp .ge 25, 3) := by decide +kernel
theorem dd_X5_peek_18 : decode cX5_peek 18 = .ok (.aload_n 0, 1) := by decide +kernel
theorem dd_X5_peek_19 : decode cX5_peek 19 = .ok (.getfield 19, 3) := by decide +kernel
theorem dd_X5_peek_22 : decode cX5_peek 22 = .ok (.sipush 150, 3) := by decide +kernel
theorem dd_X5_peek_25 : decode cX5_peek 25 = .ok (.if_icmp .ge 15, 3) := by decide +kernel
theorem dd_X5_peek_28 : decode cX5_peek 28 = .ok (.aload_n 0, 1) := by decide +kernel
theorem dd_X5_peek_29 : decode cX5_peek 29 = .ok (.getfield 9, 3) := by decide +kernel
theorem dd_X5_peek_32 : decode cX5_peek 32 = .ok (.aload_n 0, 1) := by decide +kernel
theorem dd_X5_peek_33 : decode cX5_peek 33 = .ok (.getfield 19, 3) := by decide +kernel
theorem dd_X5_peek_36 : decode cX5_peek 36 = .ok (.baload, 1) := by decide +kernel
theorem dd_X5_peek_37 : decode cX5_peek 37 = .ok (.goto 4, 3) := by decide +kernel
theorem dd_X5_peek_40 : decode cX5_peek 40 = .ok (.iconst (-1), 1) := by decide +kernel
theorem dd_X5_peek_41 : decode cX5_peek 41 = .ok (.ireturn, 1) := by decide +kernel
def tb_X5_peek (kd : Nat → Nat) (K : zK) : zTab := [(0, zt_aload 0 1), (1, zt_getI kd 7 2 4), (4, zt_if (fun x => x < 0) (fun x => ¬ x < 0) 40 7), (7, zt_aload 0 8), (8, zt_getI kd 7 2 11), (11, zt_aload 0 12), (12, zt_getI kd 7 1 15), (15, zt_icmp (fun x y => y ≤ x) (fun x y => ¬ y ≤ x) 40 18), (18, zt_aload 0 19), (19, zt_getI kd 7 2 22), (22, zt_const (zI 150) 25), (25, zt_icmp (fun x y => y ≤ x) (fun x y => ¬ y ≤ x) 40 28), (28, zt_aload 0 29), (29, zt_getR kd 7 0 1 32), (32, zt_aload 0 33), (33, zt_getI kd 7 2 36), (36, zt_ald kd 1 37), (37, zt_goto 41), (40, zt_const (zI (-1)) 41), (41, zt_iret K)]
set_option maxRecDepth 20000 in
theorem tk_X5_peek (d : Nat)  : zTrue RX5 cX5_peek 1 (some .int) (d + 1) (fun kd K => tb_X5_peek kd K) := by
  intro p l e R s m args below meth c D cy A ad bl Qm K C0 hr hlocks hQ
  obtain ⟨hx, hb, hml, hown, hts, hK, hD, hA0, hN, hE, ⟨hR1, hR2⟩, hc1, hc2⟩ := id C0
  unfold tb_X5_peek
  refine List.forall_mem_cons.mpr ⟨ok_aload_n hx hb rfl dd_X5_peek_0, ?_⟩
  refine List.forall_mem_cons.mpr ⟨ok_getI (j := 2) hx hb hts zi_X5 hown hK zc_X5 (by decide) rfl (fun t fl h => by cases h; rfl) (hts _ wd_250) dd_X5_peek_1, ?_⟩
  refine List.forall_mem_cons.mpr ⟨ok_if_lt hx hb dd_X5_peek_4 (by decide), ?_⟩
  refine List.forall_mem_cons.mpr ⟨ok_aload_n hx hb rfl dd_X5_peek_7, ?_⟩
  refine List.forall_mem_cons.mpr ⟨ok_getI (j := 2) hx hb hts zi_X5 hown hK zc_X5 (by decide) rfl (fun t fl h => by cases h; rfl) (hts _ wd_250) dd_X5_peek_8, ?_⟩
  refine List.forall_mem_cons.mpr ⟨ok_aload_n hx hb rfl dd_X5_peek_11, ?_⟩
  refine List.forall_mem_cons.mpr ⟨ok_getI (j := 1) hx hb hts zi_X5 hown hK zc_X5 (by decide) rfl (fun t fl h => by cases h; rfl) (hts _ wd_248) dd_X5_peek_12, ?_⟩
  refine List.forall_mem_cons.mpr ⟨ok_icmp_ge hx hb dd_X5_peek_15 (by decide), ?_⟩
  refine List.forall_mem_cons.mpr ⟨ok_aload_n hx hb rfl dd_X5_peek_18, ?_⟩
  refine List.forall_mem_cons.mpr ⟨ok_getI (j := 2) hx hb hts zi_X5 hown hK zc_X5 (by decide) rfl (fun t fl h => by cases h; rfl) (hts _ wd_250) dd_X5_peek_19, ?_⟩
  refine List.forall_mem_cons.mpr ⟨ok_sipush hx hb dd_X5_peek_22 (by decide), ?_⟩
  refine List.forall_mem_cons.mpr ⟨ok_icmp_ge hx hb dd_X5_peek_25 (by decide), ?_⟩
  refine List.forall_mem_cons.mpr ⟨ok_aload_n hx hb rfl dd_X5_peek_28, ?_⟩
  refine List.forall_mem_cons.mpr ⟨ok_getR (j := 0) hx hb hts zi_X5 hown hK zc_X5 (by decide) rfl (fun t fl h => by cases h; rfl) (hts _ wd_247) dd_X5_peek_29, ?_⟩
  refine List.forall_mem_cons.mpr ⟨ok_aload_n hx hb rfl dd_X5_peek_32, ?_⟩
  refine List.forall_mem_cons.mpr ⟨ok_getI (j := 2) hx hb hts zi_X5 hown hK zc_X5 (by decide) rfl (fun t fl h => by cases h; rfl) (hts _ wd_250) dd_X5_peek_33, ?_⟩
  refine List.forall_mem_cons.mpr ⟨ok_ald (ty := 1) rfl hx hb hK (Or.inr (Or.inl ⟨rfl, rfl, dd_X5_peek_36⟩)), ?_⟩
  refine List.forall_mem_cons.mpr ⟨ok_goto hx hb dd_X5_peek_37 (by decide), ?_⟩
  refine List.forall_mem_cons.mpr ⟨ok_iconst hx hb dd_X5_peek_40 (by decide), ?_⟩
  refine List.forall_mem_cons.mpr ⟨ok_iret hx hb hr hlocks hQ dd_X5_peek_41, ?_⟩
  exact fun _ h => absurd h List.not_mem_nil
set_option maxRecDepth 100000 in
theorem vc_X5_peek_0 {kd : Nat → Nat} {K : zK} {X : zX} (hX : ∀ (n pc : Nat) (ls : zLS) (st : List zV) (M : zM), zrun (tb_X5_peek kd K) [] n X pc ls st M → X pc ls st M) {t : Nat} {M : zM} (hk0 : kd t = 7) (h : (((M.1 t 0 2) < 0) → K (some (zI ((-1 : Int32)))) M) ∧ ((¬ (M.1 t 0 2) < 0) → (((M.1 t 0 1) ≤ (M.1 t 0 2)) → K (some (zI ((-1 : Int32)))) M) ∧ ((¬ (M.1 t 0 1) ≤ (M.1 t 0 2)) → (((150 : Int32) ≤ (M.1 t 0 2)) → K (some (zI ((-1 : Int32)))) M) ∧ ((¬ (150 : Int32) ≤ (M.1 t 0 2)) → (zin (kd t) 1 1 (M.1 t 0 2)) ∧ K (some (zI (M.1 t 1 (M.1 t 0 2).toNatClampNeg))) M)))) : X 0 [some (zR t 0)] [] M := hX 20 0 _ [] M (show (kd t = 7) ∧ (((M.1 t 0 2) < 0) → K (some (zI ((-1 : Int32)))) M) ∧ ((¬ (M.1 t 0 2) < 0) → (kd t = 7) ∧ (kd t = 7) ∧ (((M.1 t 0 1) ≤ (M.1 t 0 2)) → K (some (zI ((-1 : Int32)))) M) ∧ ((¬ (M.1 t 0 1) ≤ (M.1 t 0 2)) → (kd t = 7) ∧ (((150 : Int32) ≤ (M.1 t 0 2)) → K (some (zI ((-1 : Int32)))) M) ∧ ((¬ (150 : Int32) ≤ (M.1 t 0 2)) → (kd t = 7) ∧ (kd t = 7) ∧ (zin (kd t) 1 1 (M.1 t 0 2)) ∧ K (some (zI (M.1 t 1 (M.1 t 0 2).toNatClampNeg))) M))) from ⟨hk0, ⟨fun q => have h := h.1 q; h, fun q => have h := h.2 q; ⟨hk0, ⟨hk0, ⟨fun q => have h := h.1 q; h, fun q => have h := h.2 q; ⟨hk0, ⟨fun q => have h := h.1 q; h, fun q => have h := h.2 q; ⟨hk0, ⟨hk0, ⟨h.1, have h := h.2; h⟩⟩⟩⟩⟩⟩⟩⟩⟩⟩)
def sp_X5_isLetter : zSpec := fun kd as M K => match as with
  | [.inl z] => ∀ v : Int32, (v = zp (isLt z.toInt = true)) → K (some (.inl v)) M
  | _ => False
theorem dd_X5_isLetter_0 : decode cX5_isLetter 0 = .ok (.iload_n 0, 1) := by decide +kernel
theorem dd_X5_isLetter_1 : decode cX5_isLetter 1 = .ok (.bipush 97, 2) := by decide +kernel
theorem dd_X5_isLetter_3 : decode cX5_isLetter 3 = .ok (.if_icmp .lt 13, 3) := by decide +kernel
theorem dd_X5_isLetter_6 : decode cX5_isLetter 6 = .ok (.iload_n 0, 1) := by decide +kernel
theorem dd_X5_isLetter_7 : decode cX5_isLetter 7 = .ok (.bipush 122, 2) := by decide +kernel
theorem dd_X5_isLetter_9 : decode cX5_isLetter 9 = .ok (.if_icmp .gt 7, 3) := by decide +kernel
theorem dd_X5_isLetter_12 : decode cX5_isLetter 12 = .ok (.iconst 1, 1) := by decide +kernel
theorem dd_X5_isLetter_13 : decode cX5_isLetter 13 = .ok (.goto 4, 3) := by decide +kernel
theorem dd_X5_isLetter_16 : decode cX5_isLetter 16 = .ok (.iconst 0, 1) := by decide +kernel
theorem dd_X5_isLetter_17 : decode cX5_isLetter 17 = .ok (.ireturn, 1) := by decide +kernel
def tb_X5_isLetter (kd : Nat → Nat) (K : zK) : zTab := [(0, zt_iload 0 1), (1, zt_const (zI 97) 3), (3, zt_icmp (fun x y => x < y) (fun x y => ¬ x < y) 16 6), (6, zt_iload 0 7), (7, zt_const (zI 122) 9), (9, zt_icmp (fun x y => y < x) (fun x y => ¬ y < x) 16 12), (12, zt_const (zI 1) 13), (13, zt_goto 17), (16, zt_const (zI 0) 17), (17, zt_zret K)]
set_option maxRecDepth 20000 in
theorem tk_X5_isLetter (d : Nat)  : zTrue RX5 cX5_isLetter 1 (some .boolean) (d + 1) (fun kd K => tb_X5_isLetter kd K) := by
  intro p l e R s m args below meth c D cy A ad bl Qm K C0 hr hlocks hQ
  obtain ⟨hx, hb, hml, hown, hts, hK, hD, hA0, hN, hE, ⟨hR1, hR2⟩, hc1, hc2⟩ := id C0
  unfold tb_X5_isLetter
  refine List.forall_mem_cons.mpr ⟨ok_iload_n hx hb rfl dd_X5_isLetter_0, ?_⟩
  refine List.forall_mem_cons.mpr ⟨ok_bipush hx hb dd_X5_isLetter_1 (by decide), ?_⟩
  refine List.forall_mem_cons.mpr ⟨ok_icmp_lt hx hb dd_X5_isLetter_3 (by decide), ?_⟩
  refine List.forall_mem_cons.mpr ⟨ok_iload_n hx hb rfl dd_X5_isLetter_6, ?_⟩
  refine List.forall_mem_cons.mpr ⟨ok_bipush hx hb dd_X5_isLetter_7 (by decide), ?_⟩
  refine List.forall_mem_cons.mpr ⟨ok_icmp_gt hx hb dd_X5_isLetter_9 (by decide), ?_⟩
  refine List.forall_mem_cons.mpr ⟨ok_iconst hx hb dd_X5_isLetter_12 (by decide), ?_⟩
  refine List.forall_mem_cons.mpr ⟨ok_goto hx hb dd_X5_isLetter_13 (by decide), ?_⟩
  refine List.forall_mem_cons.mpr ⟨ok_iconst hx hb dd_X5_isLetter_16 (by decide), ?_⟩
  refine List.forall_mem_cons.mpr ⟨ok_zret hx hb hr hlocks hQ dd_X5_isLetter_17, ?_⟩
  exact fun _ h => absurd h List.not_mem_nil
set_option maxRecDepth 100000 in
theorem vc_X5_isLetter_0 {kd : Nat → Nat} {K : zK} {X : zX} (hX : ∀ (n pc : Nat) (ls : zLS) (st : List zV) (M : zM), zrun (tb_X5_isLetter kd K) [] n X pc ls st M → X pc ls st M) {z : Int32} {M : zM}  (h : ((z < (97 : Int32)) → K (some (zI ((0 : Int32)))) M) ∧ ((¬ z < (97 : Int32)) → (((122 : Int32) < z) → K (some (zI ((0 : Int32)))) M) ∧ ((¬ (122 : Int32) < z) → K (some (zI ((1 : Int32)))) M))) : X 0 [some (zI (z))] [] M := hX 10 0 _ [] M (show ((z < (97 : Int32)) → ((0 : Int32) = 0 ∨ (0 : Int32) = 1) ∧ K (some (zI ((0 : Int32)))) M) ∧ ((¬ z < (97 : Int32)) → (((122 : Int32) < z) → ((0 : Int32) = 0 ∨ (0 : Int32) = 1) ∧ K (some (zI ((0 : Int32)))) M) ∧ ((¬ (122 : Int32) < z) → ((1 : Int32) = 0 ∨ (1 : Int32) = 1) ∧ K (some (zI ((1 : Int32)))) M)) from ⟨fun q => have h := h.1 q; ⟨(Or.inl rfl), h⟩, fun q => have h := h.2 q; ⟨fun q => have h := h.1 q; ⟨(Or.inl rfl), h⟩, fun q => have h := h.2 q; ⟨(Or.inr rfl), h⟩⟩⟩)
def sp_X5_isFigure : zSpec := fun kd as M K => match as with
  | [.inl z] => ∀ v : Int32, (v = zp (isFg z.toInt = true)) → K (some (.inl v)) M
  | _ => False
theorem dd_X5_isFigure_0 : decode cX5_isFigure 0 = .ok (.iload_n 0, 1) := by decide +kernel
theorem dd_X5_isFigure_1 : decode cX5_isFigure 1 = .ok (.bipush 48, 2) := by decide +kernel
theorem dd_X5_isFigure_3 : decode cX5_isFigure 3 = .ok (.if_icmp .lt 13, 3) := by decide +kernel
theorem dd_X5_isFigure_6 : decode cX5_isFigure 6 = .ok (.iload_n 0, 1) := by decide +kernel
theorem dd_X5_isFigure_7 : decode cX5_isFigure 7 = .ok (.bipush 57, 2) := by decide +kernel
theorem dd_X5_isFigure_9 : decode cX5_isFigure 9 = .ok (.if_icmp .gt 7, 3) := by decide +kernel
theorem dd_X5_isFigure_12 : decode cX5_isFigure 12 = .ok (.iconst 1, 1) := by decide +kernel
theorem dd_X5_isFigure_13 : decode cX5_isFigure 13 = .ok (.goto 4, 3) := by decide +kernel
theorem dd_X5_isFigure_16 : decode cX5_isFigure 16 = .ok (.iconst 0, 1) := by decide +kernel
theorem dd_X5_isFigure_17 : decode cX5_isFigure 17 = .ok (.ireturn, 1) := by decide +kernel
def tb_X5_isFigure (kd : Nat → Nat) (K : zK) : zTab := [(0, zt_iload 0 1), (1, zt_const (zI 48) 3), (3, zt_icmp (fun x y => x < y) (fun x y => ¬ x < y) 16 6), (6, zt_iload 0 7), (7, zt_const (zI 57) 9), (9, zt_icmp (fun x y => y < x) (fun x y => ¬ y < x) 16 12), (12, zt_const (zI 1) 13), (13, zt_goto 17), (16, zt_const (zI 0) 17), (17, zt_zret K)]
set_option maxRecDepth 20000 in
theorem tk_X5_isFigure (d : Nat)  : zTrue RX5 cX5_isFigure 1 (some .boolean) (d + 1) (fun kd K => tb_X5_isFigure kd K) := by
  intro p l e R s m args below meth c D cy A ad bl Qm K C0 hr hlocks hQ
  obtain ⟨hx, hb, hml, hown, hts, hK, hD, hA0, hN, hE, ⟨hR1, hR2⟩, hc1, hc2⟩ := id C0
  unfold tb_X5_isFigure
  refine List.forall_mem_cons.mpr ⟨ok_iload_n hx hb rfl dd_X5_isFigure_0, ?_⟩
  refine List.forall_mem_cons.mpr ⟨ok_bipush hx hb dd_X5_isFigure_1 (by decide), ?_⟩
  refine List.forall_mem_cons.mpr ⟨ok_icmp_lt hx hb dd_X5_isFigure_3 (by decide), ?_⟩
  refine List.forall_mem_cons.mpr ⟨ok_iload_n hx hb rfl dd_X5_isFigure_6, ?_⟩
  refine List.forall_mem_cons.mpr ⟨ok_bipush hx hb dd_X5_isFigure_7 (by decide), ?_⟩
  refine List.forall_mem_cons.mpr ⟨ok_icmp_gt hx hb dd_X5_isFigure_9 (by decide), ?_⟩
  refine List.forall_mem_cons.mpr ⟨ok_iconst hx hb dd_X5_isFigure_12 (by decide), ?_⟩
  refine List.forall_mem_cons.mpr ⟨ok_goto hx hb dd_X5_isFigure_13 (by decide), ?_⟩
  refine List.forall_mem_cons.mpr ⟨ok_iconst hx hb dd_X5_isFigure_16 (by decide), ?_⟩
  refine List.forall_mem_cons.mpr ⟨ok_zret hx hb hr hlocks hQ dd_X5_isFigure_17, ?_⟩
  exact fun _ h => absurd h List.not_mem_nil
set_option maxRecDepth 100000 in
theorem vc_X5_isFigure_0 {kd : Nat → Nat} {K : zK} {X : zX} (hX : ∀ (n pc : Nat) (ls : zLS) (st : List zV) (M : zM), zrun (tb_X5_isFigure kd K) [] n X pc ls st M → X pc ls st M) {z : Int32} {M : zM}  (h : ((z < (48 : Int32)) → K (some (zI ((0 : Int32)))) M) ∧ ((¬ z < (48 : Int32)) → (((57 : Int32) < z) → K (some (zI ((0 : Int32)))) M) ∧ ((¬ (57 : Int32) < z) → K (some (zI ((1 : Int32)))) M))) : X 0 [some (zI (z))] [] M := hX 10 0 _ [] M (show ((z < (48 : Int32)) → ((0 : Int32) = 0 ∨ (0 : Int32) = 1) ∧ K (some (zI ((0 : Int32)))) M) ∧ ((¬ z < (48 : Int32)) → (((57 : Int32) < z) → ((0 : Int32) = 0 ∨ (0 : Int32) = 1) ∧ K (some (zI ((0 : Int32)))) M) ∧ ((¬ (57 : Int32) < z) → ((1 : Int32) = 0 ∨ (1 : Int32) = 1) ∧ K (some (zI ((1 : Int32)))) M)) from ⟨fun q => have h := h.1 q; ⟨(Or.inl rfl), h⟩, fun q => have h := h.2 q; ⟨fun q => have h := h.1 q; ⟨(Or.inl rfl), h⟩, fun q => have h := h.2 q; ⟨(Or.inr rfl), h⟩⟩⟩)
def sp_X5_cutWord : zSpec := fun kd as M K => match as with
  | [.inr (.inr (.inl (t, 0)))] => (kd t = 7) ∧ ∃ b : List Int, (RpB (M.1 t) b) ∧ ∃ p : Nat, ((M.1 t 0 2).toInt = (p : Int)) ∧ (p ≤ b.length) ∧ ∀ S' : zB, (RpB S' b ∧ (S' 0 2).toInt = (skW isLt b p : Int) ∧ S' 0 3 = M.1 t 0 3 ∧ (S' 0 4).toInt = 4) → ∀ M' : zM, (M' = zbs M t S') → K none M'
  | _ => False
theorem rv_X5_cutWord : zrv sp_X5_cutWord 7 0 := by
  intro kd as M K h
  unfold sp_X5_cutWord at h
  split at h
  · exact ⟨_, _, rfl, h.1⟩
  · exact h.elim
theorem dd_X5_cutWord_0 : decode cX5_cutWord 0 = .ok (.aload_n 0, 1) := by decide +kernel
theorem dd_X5_cutWord_1 : decode cX5_cutWord 1 = .ok (.getfield 19, 3) := by decide +kernel
theorem dd_X5_cutWord_4 : decode cX5_cutWord 4 = .ok (.aload_n 0, 1) := by decide +kernel
theorem dd_X5_cutWord_5 : decode cX5_cutWord 5 = .ok (.getfield 15, 3) := by decide +kernel
theorem dd_X5_cutWord_8 : decode cX5_cutWord 8 = .ok (.if_icmp .ge 26, 3) := by decide +kernel
theorem dd_X5_cutWord_11 : decode cX5_cutWord 11 = .ok (.aload_n 0, 1) := by decide +kernel
theorem dd_X5_cutWord_12 : decode cX5_cutWord 12 = .ok (.invokevirtual 34, 3) := by decide +kernel
theorem dd_X5_cutWord_15 : decode cX5_cutWord 15 = .ok (.invokestatic 38, 3) := by decide +kernel
theorem dd_X5_cutWord_18 : decode cX5_cutWord 18 = .ok (.ifCond .eq 16, 3) := by decide +kernel
theorem dd_X5_cutWord_21 : decode cX5_cutWord 21 = .ok (.aload_n 0, 1) := by decide +kernel
theorem dd_X5_cutWord_22 : decode cX5_cutWord 22 = .ok (.dup, 1) := by decide +kernel
theorem dd_X5_cutWord_23 : decode cX5_cutWord 23 = .ok (.getfield 19, 3) := by decide +kernel
theorem dd_X5_cutWord_26 : decode cX5_cutWord 26 = .ok (.iconst 1, 1) := by decide +kernel
theorem dd_X5_cutWord_27 : decode cX5_cutWord 27 = .ok (.iadd, 1) := by decide +kernel
theorem dd_X5_cutWord_28 : decode cX5_cutWord 28 = .ok (.putfield 19, 3) := by decide +kernel
theorem dd_X5_cutWord_31 : decode cX5_cutWord 31 = .ok (.goto (-31), 3) := by decide +kernel
theorem dd_X5_cutWord_34 : decode cX5_cutWord 34 = .ok (.aload_n 0, 1) := by decide +kernel
theorem dd_X5_cutWord_35 : decode cX5_cutWord 35 = .ok (.iconst 4, 1) := by decide +kernel
theorem dd_X5_cutWord_36 : decode cX5_cutWord 36 = .ok (.putfield 25, 3) := by decide +kernel
theorem dd_X5_cutWord_39 : decode cX5_cutWord 39 = .ok (.return_, 1) := by decide +kernel
def tb_X5_cutWord (kd : Nat → Nat) (K : zK) : zTab := [(0, zt_aload 0 1), (1, zt_getI kd 7 2 4), (4, zt_aload 0 5), (5, zt_getI kd 7 1 8), (8, zt_icmp (fun x y => y ≤ x) (fun x y => ¬ y ≤ x) 34 11), (11, zt_aload 0 12), (12, zt_call kd sp_X5_peek 1 15), (15, zt_call kd sp_X5_isLetter 1 18), (18, zt_if (fun x => x = 0) (fun x => ¬ x = 0) 34 21), (21, zt_aload 0 22), (22, zt_dup 23), (23, zt_getI kd 7 2 26), (26, zt_const (zI 1) 27), (27, zt_bin (fun x y => x + y) 28), (28, zt_putI kd 7 2 31), (31, zt_goto 0), (34, zt_aload 0 35), (35, zt_const (zI 4) 36), (36, zt_putI kd 7 4 39), (39, zt_vret K)]
set_option maxRecDepth 20000 in
theorem tk_X5_cutWord (d : Nat) (h_X5_peek : zMS 1 yX5_peek cX5_peek 1 (some .int) sp_X5_peek) (h_X5_isLetter : zMS 1 yX5_isLetter cX5_isLetter 1 (some .boolean) sp_X5_isLetter) : zTrue RX5 cX5_cutWord 1 none (d + 2) (fun kd K => tb_X5_cutWord kd K) := by
  intro p l e R s m args below meth c D cy A ad bl Qm K C0 hr hlocks hQ
  obtain ⟨hx, hb, hml, hown, hts, hK, hD, hA0, hN, hE, ⟨hR1, hR2⟩, hc1, hc2⟩ := id C0
  unfold tb_X5_cutWord
  refine List.forall_mem_cons.mpr ⟨ok_aload_n hx hb rfl dd_X5_cutWord_0, ?_⟩
  refine List.forall_mem_cons.mpr ⟨ok_getI (j := 2) hx hb hts zi_X5 hown hK zc_X5 (by decide) rfl (fun t fl h => by cases h; rfl) (hts _ wd_250) dd_X5_cutWord_1, ?_⟩
  refine List.forall_mem_cons.mpr ⟨ok_aload_n hx hb rfl dd_X5_cutWord_4, ?_⟩
  refine List.forall_mem_cons.mpr ⟨ok_getI (j := 1) hx hb hts zi_X5 hown hK zc_X5 (by decide) rfl (fun t fl h => by cases h; rfl) (hts _ wd_248) dd_X5_cutWord_5, ?_⟩
  refine List.forall_mem_cons.mpr ⟨ok_icmp_ge hx hb dd_X5_cutWord_8 (by decide), ?_⟩
  refine List.forall_mem_cons.mpr ⟨ok_aload_n hx hb rfl dd_X5_cutWord_11, ?_⟩
  refine List.forall_mem_cons.mpr ⟨ok_callV (n := 0) zc_X5 rv_X5_peek C0 (h_X5_peek (d + 1) (by omega)) (by decide) wd_426 wd_423 wd_425 wd_18 wd_106 ⟨rfl, by decide +kernel, by decide +kernel, by decide +kernel⟩ dd_X5_cutWord_12, ?_⟩
  refine List.forall_mem_cons.mpr ⟨ok_callS (n := 1) C0 (h_X5_isLetter (d + 1) (by omega)) (by decide) wd_429 wd_427 wd_428 wd_106 ⟨by decide +kernel, by decide +kernel, by decide +kernel⟩ dd_X5_cutWord_15, ?_⟩
  refine List.forall_mem_cons.mpr ⟨ok_if_eq hx hb dd_X5_cutWord_18 (by decide), ?_⟩
  refine List.forall_mem_cons.mpr ⟨ok_aload_n hx hb rfl dd_X5_cutWord_21, ?_⟩
  refine List.forall_mem_cons.mpr ⟨ok_dup hx hb dd_X5_cutWord_22, ?_⟩
  refine List.forall_mem_cons.mpr ⟨ok_getI (j := 2) hx hb hts zi_X5 hown hK zc_X5 (by decide) rfl (fun t fl h => by cases h; rfl) (hts _ wd_250) dd_X5_cutWord_23, ?_⟩
  refine List.forall_mem_cons.mpr ⟨ok_iconst hx hb dd_X5_cutWord_26 (by decide), ?_⟩
  refine List.forall_mem_cons.mpr ⟨ok_iadd hx hb dd_X5_cutWord_27, ?_⟩
  refine List.forall_mem_cons.mpr ⟨ok_putI (j := 2) hx hb hts zi_X5 tyX5 tyX5_ok nmX5 hown hK hD zc_X5 (by decide) rfl rfl (by decide +kernel) (fun t fl h => by cases h; rfl) (hts _ wd_250) dd_X5_cutWord_28, ?_⟩
  refine List.forall_mem_cons.mpr ⟨ok_goto hx hb dd_X5_cutWord_31 (by decide), ?_⟩
  refine List.forall_mem_cons.mpr ⟨ok_aload_n hx hb rfl dd_X5_cutWord_34, ?_⟩
  refine List.forall_mem_cons.mpr ⟨ok_iconst hx hb dd_X5_cutWord_35 (by decide), ?_⟩
  refine List.forall_mem_cons.mpr ⟨ok_putI (j := 4) hx hb hts zi_X5 tyX5 tyX5_ok nmX5 hown hK hD zc_X5 (by decide) rfl rfl (by decide +kernel) (fun t fl h => by cases h; rfl) (hts _ wd_253) dd_X5_cutWord_36, ?_⟩
  refine List.forall_mem_cons.mpr ⟨ok_vret hx hb hr hlocks hQ dd_X5_cutWord_39, ?_⟩
  exact fun _ h => absurd h List.not_mem_nil
set_option maxRecDepth 100000 in
theorem vc_X5_cutWord_0 {kd : Nat → Nat} {K : zK} {X : zX} (hX : ∀ (n pc : Nat) (ls : zLS) (st : List zV) (M : zM), zrun (tb_X5_cutWord kd K) [(0, [])] n X pc ls st M → X pc ls st M) {t : Nat} {M : zM} (hk0 : kd t = 7) (h : (((M.1 t 0 1) ≤ (M.1 t 0 2)) → ∀ M1 : zM, (M1 = zmw M t 0 (upd (M.1 t 0) 4 (4 : Int32))) → K none M1) ∧ ((¬ (M.1 t 0 1) ≤ (M.1 t 0 2)) → ∃ b2 : List Int, (RpB (M.1 t) b2) ∧ ∃ p2 : Nat, ((M.1 t 0 2).toInt = (p2 : Int)) ∧ (p2 ≤ b2.length) ∧ ∀ v2 : Int32, (v2.toInt = atB b2 p2) → ∀ v3 : Int32, (v3 = zp (isLt v2.toInt = true)) → ((v3 = 0) → ∀ M4 : zM, (M4 = zmw M t 0 (upd (M.1 t 0) 4 (4 : Int32))) → K none M4) ∧ ((¬ v3 = 0) → ∀ M5 : zM, (M5 = zmw M t 0 (upd (M.1 t 0) 2 ((M.1 t 0 2) + (1 : Int32)))) → X 0 [some (zR t 0)] [] M5))) : X 0 [some (zR t 0)] [] M := hX 18 0 _ [] M (show (kd t = 7) ∧ (kd t = 7) ∧ (((M.1 t 0 1) ≤ (M.1 t 0 2)) → (kd t = 7) ∧ ∀ M1 : zM, (M1 = zmw M t 0 (upd (M.1 t 0) 4 (4 : Int32))) → K none M1) ∧ ((¬ (M.1 t 0 1) ≤ (M.1 t 0 2)) → (kd t = 7) ∧ ∃ b2 : List Int, (RpB (M.1 t) b2) ∧ ∃ p2 : Nat, ((M.1 t 0 2).toInt = (p2 : Int)) ∧ (p2 ≤ b2.length) ∧ ∀ v2 : Int32, (v2.toInt = atB b2 p2) → ∀ v3 : Int32, (v3 = zp (isLt v2.toInt = true)) → ((v3 = 0) → (kd t = 7) ∧ ∀ M4 : zM, (M4 = zmw M t 0 (upd (M.1 t 0) 4 (4 : Int32))) → K none M4) ∧ ((¬ v3 = 0) → (kd t = 7) ∧ (kd t = 7) ∧ ∀ M5 : zM, (M5 = zmw M t 0 (upd (M.1 t 0) 2 ((M.1 t 0 2) + (1 : Int32)))) → X 0 [some (zR t 0)] [] M5)) from ⟨hk0, ⟨hk0, ⟨fun q => have h := h.1 q; ⟨hk0, fun M1 => have h := h M1; fun q => have h := h q; h⟩, fun q => have h := h.2 q; ⟨hk0, h.elim (fun b2 h => ⟨b2, ⟨h.1, have h := h.2; h.elim (fun p2 h => ⟨p2, ⟨h.1, have h := h.2; ⟨h.1, have h := h.2; fun v2 => have h := h v2; fun q => have h := h q; fun v3 => have h := h v3; fun q => have h := h q; ⟨fun q => have h := h.1 q; ⟨hk0, fun M4 => have h := h M4; fun q => have h := h q; h⟩, fun q => have h := h.2 q; ⟨hk0, ⟨hk0, fun M5 => have h := h M5; fun q => have h := h q; h⟩⟩⟩⟩⟩⟩)⟩⟩)⟩⟩⟩⟩)
def sp_X5_cutNumber : zSpec := fun kd as M K => match as with
  | [.inr (.inr (.inl (t, 0)))] => (kd t = 7) ∧ ∃ b : List Int, (RpB (M.1 t) b) ∧ ∃ p : Nat, ((M.1 t 0 2).toInt = (p : Int)) ∧ ((M.1 t 0 3).toInt = (p : Int)) ∧ (p ≤ b.length) ∧ (isFg (atB b p) = true) ∧ ∀ S' : zB, (RpB S' b ∧ (S' 0 2).toInt = (skW isFg b p : Int) ∧ S' 0 3 = M.1 t 0 3 ∧ (S' 0 4).toInt = (if skW isFg b p - p ≤ 2 then 3 else 1) ∧ (S' 0 5).toInt = dig2 b p (skW isFg b p)) → ∀ M' : zM, (M' = zbs M t S') → K none M'
  | _ => False
theorem rv_X5_cutNumber : zrv sp_X5_cutNumber 7 0 := by
  intro kd as M K h
  unfold sp_X5_cutNumber at h
  split at h
  · exact ⟨_, _, rfl, h.1⟩
  · exact h.elim
theorem dd_X5_cutNumber_0 : decode cX5_cutNumber 0 = .ok (.aload_n 0, 1) := by decide +kernel
theorem dd_X5_cutNumber_1 : decode cX5_cutNumber 1 = .ok (.iconst 0, 1) := by decide +kernel
theorem dd_X5_cutNumber_2 : decode cX5_cutNumber 2 = .ok (.putfield 28, 3) := by decide +kernel
theorem dd_X5_cutNumber_5 : decode cX5_cutNumber 5 = .ok (.aload_n 0, 1) := by decide +kernel
theorem dd_X5_cutNumber_6 : decode cX5_cutNumber 6 = .ok (.getfield 19, 3) := by decide +kernel
theorem dd_X5_cutNumber_9 : decode cX5_cutNumber 9 = .ok (.aload_n 0, 1) := by decide +kernel
theorem dd_X5_cutNumber_10 : decode cX5_cutNumber 10 = .ok (.getfield 15, 3) := by decide +kernel
theorem dd_X5_cutNumber_13 : decode cX5_cutNumber 13 = .ok (.if_icmp .ge 58, 3) := by decide +kernel
theorem dd_X5_cutNumber_16 : decode cX5_cutNumber 16 = .ok (.aload_n 0, 1) := by decide +kernel
theorem dd_X5_cutNumber_17 : decode cX5_cutNumber 17 = .ok (.invokevirtual 34, 3) := by decide +kernel
theorem dd_X5_cutNumber_20 : decode cX5_cutNumber 20 = .ok (.invokestatic 45, 3) := by decide +kernel
theorem dd_X5_cutNumber_23 : decode cX5_cutNumber 23 = .ok (.ifCond .eq 48, 3) := by decide +kernel
theorem dd_X5_cutNumber_26 : decode cX5_cutNumber 26 = .ok (.aload_n 0, 1) := by decide +kernel
theorem dd_X5_cutNumber_27 : decode cX5_cutNumber 27 = .ok (.getfield 19, 3) := by decide +kernel
theorem dd_X5_cutNumber_30 : decode cX5_cutNumber 30 = .ok (.aload_n 0, 1) := by decide +kernel
theorem dd_X5_cutNumber_31 : decode cX5_cutNumber 31 = .ok (.getfield 22, 3) := by decide +kernel
theorem dd_X5_cutNumber_34 : decode cX5_cutNumber 34 = .ok (.isub, 1) := by decide +kernel
theorem dd_X5_cutNumber_35 : decode cX5_cutNumber 35 = .ok (.iconst 2, 1) := by decide +kernel
theorem dd_X5_cutNumber_36 : decode cX5_cutNumber 36 = .ok (.if_icmp .ge 22, 3) := by decide +kernel
theorem dd_X5_cutNumber_39 : decode cX5_cutNumber 39 = .ok (.aload_n 0, 1) := by decide +kernel
theorem dd_X5_cutNumber_40 : decode cX5_cutNumber 40 = .ok (.aload_n 0, 1) := by decide +kernel
theorem dd_X5_cutNumber_41 : decode cX5_cutNumber 41 = .ok (.getfield 28, 3) := by decide +kernel
theorem dd_X5_cutNumber_44 : decode cX5_cutNumber 44 = .ok (.bipush 10, 2) := by decide +kernel
theorem dd_X5_cutNumber_46 : decode cX5_cutNumber 46 = .ok (.imul, 1) := by decide +kernel
theorem dd_X5_cutNumber_47 : decode cX5_cutNumber 47 = .ok (.aload_n 0, 1) := by decide +kernel
theorem dd_X5_cutNumber_48 : decode cX5_cutNumber 48 = .ok (.invokevirtual 34, 3) := by decide +kernel
theorem dd_X5_cutNumber_51 : decode cX5_cutNumber 51 = .ok (.iadd, 1) := by decide +kernel
theorem dd_X5_cutNumber_52 : decode cX5_cutNumber 52 = .ok (.bipush 48, 2) := by decide +kernel
theorem dd_X5_cutNumber_54 : decode cX5_cutNumber 54 = .ok (.isub, 1) := by decide +kernel
theorem dd_X5_cutNumber_55 : decode cX5_cutNumber 55 = .ok (.putfield 28, 3) := by decide +kernel
theorem dd_X5_cutNumber_58 : decode cX5_cutNumber 58 = .ok (.aload_n 0, 1) := by decide +kernel
theorem dd_X5_cutNumber_59 : decode cX5_cutNumber 59 = .ok (.dup, 1) := by decide +kernel
theorem dd_X5_cutNumber_60 : decode cX5_cutNumber 60 = .ok (.getfield 19, 3) := by decide +kernel
theorem dd_X5_cutNumber_63 : decode cX5_cutNumber 63 = .ok (.iconst 1, 1) := by decide +kernel
theorem dd_X5_cutNumber_64 : decode cX5_cutNumber 64 = .ok (.iadd, 1) := by decide +kernel
theorem dd_X5_cutNumber_65 : decode cX5_cutNumber 65 = .ok (.putfield 19, 3) := by decide +kernel
theorem dd_X5_cutNumber_68 : decode cX5_cutNumber 68 = .ok (.goto (-63), 3) := by decide +kernel
theorem dd_X5_cutNumber_71 : decode cX5_cutNumber 71 = .ok (.aload_n 0, 1) := by decide +kernel
theorem dd_X5_cutNumber_72 : decode cX5_cutNumber 72 = .ok (.aload_n 0, 1) := by decide +kernel
theorem dd_X5_cutNumber_73 : decode cX5_cutNumber 73 = .ok (.getfield 19, 3) := by decide +kernel
theorem dd_X5_cutNumber_76 : decode cX5_cutNumber 76 = .ok (.aload_n 0, 1) := by decide +kernel
theorem dd_X5_cutNumber_77 : decode cX5_cutNumber 77 = .ok (.getfield 22, 3) := by decide +kernel
theorem dd_X5_cutNumber_80 : decode cX5_cutNumber 80 = .ok (.isub, 1) := by decide +kernel
theorem dd_X5_cutNumber_81 : decode cX5_cutNumber 81 = .ok (.iconst 2, 1) := by decide +kernel
theorem dd_X5_cutNumber_82 : decode cX5_cutNumber 82 = .ok (.if_icmp .gt 7, 3) := by decide +kernel
theorem dd_X5_cutNumber_85 : decode cX5_cutNumber 85 = .ok (.iconst 3, 1) := by decide +kernel
theorem dd_X5_cutNumber_86 : decode cX5_cutNumber 86 = .ok (.goto 4, 3) := by decide +kernel
theorem dd_X5_cutNumber_89 : decode cX5_cutNumber 89 = .ok (.iconst 1, 1) := by decide +kernel
theorem dd_X5_cutNumber_90 : decode cX5_cutNumber 90 = .ok (.putfield 25, 3) := by decide +kernel
theorem dd_X5_cutNumber_93 : decode cX5_cutNumber 93 = .ok (.return_, 1) := by decide +kernel
def tb_X5_cutNumber (kd : Nat → Nat) (K : zK) : zTab := [(0, zt_aload 0 1), (1, zt_const (zI 0) 2), (2, zt_putI kd 7 5 5), (5, zt_aload 0 6), (6, zt_getI kd 7 2 9), (9, zt_aload 0 10), (10, zt_getI kd 7 1 13), (13, zt_icmp (fun x y => y ≤ x) (fun x y => ¬ y ≤ x) 71 16), (16, zt_aload 0 17), (17, zt_call kd sp_X5_peek 1 20), (20, zt_call kd sp_X5_isFigure 1 23), (23, zt_if (fun x => x = 0) (fun x => ¬ x = 0) 71 26), (26, zt_aload 0 27), (27, zt_getI kd 7 2 30), (30, zt_aload 0 31), (31, zt_getI kd 7 3 34), (34, zt_bin (fun x y => x - y) 35), (35, zt_const (zI 2) 36), (36, zt_icmp (fun x y => y ≤ x) (fun x y => ¬ y ≤ x) 58 39), (39, zt_aload 0 40), (40, zt_aload 0 41), (41, zt_getI kd 7 5 44), (44, zt_const (zI 10) 46), (46, zt_bin (fun x y => x * y) 47), (47, zt_aload 0 48), (48, zt_call kd sp_X5_peek 1 51), (51, zt_bin (fun x y => x + y) 52), (52, zt_const (zI 48) 54), (54, zt_bin (fun x y => x - y) 55), (55, zt_putI kd 7 5 58), (58, zt_aload 0 59), (59, zt_dup 60), (60, zt_getI kd 7 2 63), (63, zt_const (zI 1) 64), (64, zt_bin (fun x y => x + y) 65), (65, zt_putI kd 7 2 68), (68, zt_goto 5), (71, zt_aload 0 72), (72, zt_aload 0 73), (73, zt_getI kd 7 2 76), (76, zt_aload 0 77), (77, zt_getI kd 7 3 80), (80, zt_bin (fun x y => x - y) 81), (81, zt_const (zI 2) 82), (82, zt_icmp (fun x y => y < x) (fun x y => ¬ y < x) 89 85), (85, zt_const (zI 3) 86), (86, zt_goto 90), (89, zt_const (zI 1) 90), (90, zt_putI kd 7 4 93), (93, zt_vret K)]
set_option maxRecDepth 20000 in
theorem tk_X5_cutNumber (d : Nat) (h_X5_peek : zMS 1 yX5_peek cX5_peek 1 (some .int) sp_X5_peek) (h_X5_isFigure : zMS 1 yX5_isFigure cX5_isFigure 1 (some .boolean) sp_X5_isFigure) : zTrue RX5 cX5_cutNumber 1 none (d + 2) (fun kd K => tb_X5_cutNumber kd K) := by
  intro p l e R s m args below meth c D cy A ad bl Qm K C0 hr hlocks hQ
  obtain ⟨hx, hb, hml, hown, hts, hK, hD, hA0, hN, hE, ⟨hR1, hR2⟩, hc1, hc2⟩ := id C0
  unfold tb_X5_cutNumber
  refine List.forall_mem_cons.mpr ⟨ok_aload_n hx hb rfl dd_X5_cutNumber_0, ?_⟩
  refine List.forall_mem_cons.mpr ⟨ok_iconst hx hb dd_X5_cutNumber_1 (by decide), ?_⟩
  refine List.forall_mem_cons.mpr ⟨ok_putI (j := 5) hx hb hts zi_X5 tyX5 tyX5_ok nmX5 hown hK hD zc_X5 (by decide) rfl rfl (by decide +kernel) (fun t fl h => by cases h; rfl) (hts _ wd_255) dd_X5_cutNumber_2, ?_⟩
  refine List.forall_mem_cons.mpr ⟨ok_aload_n hx hb rfl dd_X5_cutNumber_5, ?_⟩
  refine List.forall_mem_cons.mpr ⟨ok_getI (j := 2) hx hb hts zi_X5 hown hK zc_X5 (by decide) rfl (fun t fl h => by cases h; rfl) (hts _ wd_250) dd_X5_cutNumber_6, ?_⟩
  refine List.forall_mem_cons.mpr ⟨ok_aload_n hx hb rfl dd_X5_cutNumber_9, ?_⟩
  refine List.forall_mem_cons.mpr ⟨ok_getI (j := 1) hx hb hts zi_X5 hown hK zc_X5 (by decide) rfl (fun t fl h => by cases h; rfl) (hts _ wd_248) dd_X5_cutNumber_10, ?_⟩
  refine List.forall_mem_cons.mpr ⟨ok_icmp_ge hx hb dd_X5_cutNumber_13 (by decide), ?_⟩
  refine List.forall_mem_cons.mpr ⟨ok_aload_n hx hb rfl dd_X5_cutNumber_16, ?_⟩
  refine List.forall_mem_cons.mpr ⟨ok_callV (n := 0) zc_X5 rv_X5_peek C0 (h_X5_peek (d + 1) (by omega)) (by decide) wd_426 wd_423 wd_425 wd_18 wd_106 ⟨rfl, by decide +kernel, by decide +kernel, by decide +kernel⟩ dd_X5_cutNumber_17, ?_⟩
  refine List.forall_mem_cons.mpr ⟨ok_callS (n := 1) C0 (h_X5_isFigure (d + 1) (by omega)) (by decide) wd_436 wd_434 wd_435 wd_106 ⟨by decide +kernel, by decide +kernel, by decide +kernel⟩ dd_X5_cutNumber_20, ?_⟩
  refine List.forall_mem_cons.mpr ⟨ok_if_eq hx hb dd_X5_cutNumber_23 (by decide), ?_⟩
  refine List.forall_mem_cons.mpr ⟨ok_aload_n hx hb rfl dd_X5_cutNumber_26, ?_⟩
  refine List.forall_mem_cons.mpr ⟨ok_getI (j := 2) hx hb hts zi_X5 hown hK zc_X5 (by decide) rfl (fun t fl h => by cases h; rfl) (hts _ wd_250) dd_X5_cutNumber_27, ?_⟩
  refine List.forall_mem_cons.mpr ⟨ok_aload_n hx hb rfl dd_X5_cutNumber_30, ?_⟩
  refine List.forall_mem_cons.mpr ⟨ok_getI (j := 3) hx hb hts zi_X5 hown hK zc_X5 (by decide) rfl (fun t fl h => by cases h; rfl) (hts _ wd_251) dd_X5_cutNumber_31, ?_⟩
  refine List.forall_mem_cons.mpr ⟨ok_isub hx hb dd_X5_cutNumber_34, ?_⟩
  refine List.forall_mem_cons.mpr ⟨ok_iconst hx hb dd_X5_cutNumber_35 (by decide), ?_⟩
  refine List.forall_mem_cons.mpr ⟨ok_icmp_ge hx hb dd_X5_cutNumber_36 (by decide), ?_⟩
  refine List.forall_mem_cons.mpr ⟨ok_aload_n hx hb rfl dd_X5_cutNumber_39, ?_⟩
  refine List.forall_mem_cons.mpr ⟨ok_aload_n hx hb rfl dd_X5_cutNumber_40, ?_⟩
  refine List.forall_mem_cons.mpr ⟨ok_getI (j := 5) hx hb hts zi_X5 hown hK zc_X5 (by decide) rfl (fun t fl h => by cases h; rfl) (hts _ wd_255) dd_X5_cutNumber_41, ?_⟩
  refine List.forall_mem_cons.mpr ⟨ok_bipush hx hb dd_X5_cutNumber_44 (by decide), ?_⟩
  refine List.forall_mem_cons.mpr ⟨ok_imul hx hb dd_X5_cutNumber_46, ?_⟩
  refine List.forall_mem_cons.mpr ⟨ok_aload_n hx hb rfl dd_X5_cutNumber_47, ?_⟩
  refine List.forall_mem_cons.mpr ⟨ok_callV (n := 0) zc_X5 rv_X5_peek C0 (h_X5_peek (d + 1) (by omega)) (by decide) wd_426 wd_423 wd_425 wd_18 wd_106 ⟨rfl, by decide +kernel, by decide +kernel, by decide +kernel⟩ dd_X5_cutNumber_48, ?_⟩
  refine List.forall_mem_cons.mpr ⟨ok_iadd hx hb dd_X5_cutNumber_51, ?_⟩
  refine List.forall_mem_cons.mpr ⟨ok_bipush hx hb dd_X5_cutNumber_52 (by decide), ?_⟩
  refine List.forall_mem_cons.mpr ⟨ok_isub hx hb dd_X5_cutNumber_54, ?_⟩
  refine List.forall_mem_cons.mpr ⟨ok_putI (j := 5) hx hb hts zi_X5 tyX5 tyX5_ok nmX5 hown hK hD zc_X5 (by decide) rfl rfl (by decide +kernel) (fun t fl h => by cases h; rfl) (hts _ wd_255) dd_X5_cutNumber_55, ?_⟩
  refine List.forall_mem_cons.mpr ⟨ok_aload_n hx hb rfl dd_X5_cutNumber_58, ?_⟩
  refine List.forall_mem_cons.mpr ⟨ok_dup hx hb dd_X5_cutNumber_59, ?_⟩
  refine List.forall_mem_cons.mpr ⟨ok_getI (j := 2) hx hb hts zi_X5 hown hK zc_X5 (by decide) rfl (fun t fl h => by cases h; rfl) (hts _ wd_250) dd_X5_cutNumber_60, ?_⟩
  refine List.forall_mem_cons.mpr ⟨ok_iconst hx hb dd_X5_cutNumber_63 (by decide), ?_⟩
  refine List.forall_mem_cons.mpr ⟨ok_iadd hx hb dd_X5_cutNumber_64, ?_⟩
  refine List.forall_mem_cons.mpr ⟨ok_putI (j := 2) hx hb hts zi_X5 tyX5 tyX5_ok nmX5 hown hK hD zc_X5 (by decide) rfl rfl (by decide +kernel) (fun t fl h => by cases h; rfl) (hts _ wd_250) dd_X5_cutNumber_65, ?_⟩
  refine List.forall_mem_cons.mpr ⟨ok_goto hx hb dd_X5_cutNumber_68 (by decide), ?_⟩
  refine List.forall_mem_cons.mpr ⟨ok_aload_n hx hb rfl dd_X5_cutNumber_71, ?_⟩
  refine List.forall_mem_cons.mpr ⟨ok_aload_n hx hb rfl dd_X5_cutNumber_72, ?_⟩
  refine List.forall_mem_cons.mpr ⟨ok_getI (j := 2) hx hb hts zi_X5 hown hK zc_X5 (by decide) rfl (fun t fl h => by cases h; rfl) (hts _ wd_250) dd_X5_cutNumber_73, ?_⟩
  refine List.forall_mem_cons.mpr ⟨ok_aload_n hx hb rfl dd_X5_cutNumber_76, ?_⟩
  refine List.forall_mem_cons.mpr ⟨ok_getI (j := 3) hx hb hts zi_X5 hown hK zc_X5 (by decide) rfl (fun t fl h => by cases h; rfl) (hts _ wd_251) dd_X5_cutNumber_77, ?_⟩
  refine List.forall_mem_cons.mpr ⟨ok_isub hx hb dd_X5_cutNumber_80, ?_⟩
  refine List.forall_mem_cons.mpr ⟨ok_iconst hx hb dd_X5_cutNumber_81 (by decide), ?_⟩
  refine List.forall_mem_cons.mpr ⟨ok_icmp_gt hx hb dd_X5_cutNumber_82 (by decide), ?_⟩
  refine List.forall_mem_cons.mpr ⟨ok_iconst hx hb dd_X5_cutNumber_85 (by decide), ?_⟩
  refine List.forall_mem_cons.mpr ⟨ok_goto hx hb dd_X5_cutNumber_86 (by decide), ?_⟩
  refine List.forall_mem_cons.mpr ⟨ok_iconst hx hb dd_X5_cutNumber_89 (by decide), ?_⟩
  refine List.forall_mem_cons.mpr ⟨ok_putI (j := 4) hx hb hts zi_X5 tyX5 tyX5_ok nmX5 hown hK hD zc_X5 (by decide) rfl rfl (by decide +kernel) (fun t fl h => by cases h; rfl) (hts _ wd_253) dd_X5_cutNumber_90, ?_⟩
  refine List.forall_mem_cons.mpr ⟨ok_vret hx hb hr hlocks hQ dd_X5_cutNumber_93, ?_⟩
  exact fun _ h => absurd h List.not_mem_nil
set_option maxRecDepth 100000 in
theorem vc_X5_cutNumber_0 {kd : Nat → Nat} {K : zK} {X : zX} (hX : ∀ (n pc : Nat) (ls : zLS) (st : List zV) (M : zM), zrun (tb_X5_cutNumber kd K) [(5, [])] n X pc ls st M → X pc ls st M) {t : Nat} {M : zM} (hk0 : kd t = 7) (h : ∀ M1 : zM, (M1 = zmw M t 0 (upd (M.1 t 0) 5 (0 : Int32))) → X 5 [some (zR t 0)] [] M1) : X 0 [some (zR t 0)] [] M := hX 5 0 _ [] M (show (kd t = 7) ∧ ∀ M1 : zM, (M1 = zmw M t 0 (upd (M.1 t 0) 5 (0 : Int32))) → X 5 [some (zR t 0)] [] M1 from ⟨hk0, fun M1 => have h := h M1; fun q => have h := h q; h⟩)
set_option maxRecDepth 100000 in
theorem vc_X5_cutNumber_5 {kd : Nat → Nat} {K : zK} {X : zX} (hX : ∀ (n pc : Nat) (ls : zLS) (st : List zV) (M : zM), zrun (tb_X5_cutNumber kd K) [(5, [])] n X pc ls st M → X pc ls st M) {t : Nat} {M : zM} (hk0 : kd t = 7) (h : (((M.1 t 0 1) ≤ (M.1 t 0 2)) → (((2 : Int32) < ((M.1 t 0 2) - (M.1 t 0 3))) → ∀ M1 : zM, (M1 = zmw M t 0 (upd (M.1 t 0) 4 (1 : Int32))) → K none M1) ∧ ((¬ (2 : Int32) < ((M.1 t 0 2) - (M.1 t 0 3))) → ∀ M2 : zM, (M2 = zmw M t 0 (upd (M.1 t 0) 4 (3 : Int32))) → K none M2)) ∧ ((¬ (M.1 t 0 1) ≤ (M.1 t 0 2)) → ∃ b3 : List Int, (RpB (M.1 t) b3) ∧ ∃ p3 : Nat, ((M.1 t 0 2).toInt = (p3 : Int)) ∧ (p3 ≤ b3.length) ∧ ∀ v3 : Int32, (v3.toInt = atB b3 p3) → ∀ v4 : Int32, (v4 = zp (isFg v3.toInt = true)) → ((v4 = 0) → (((2 : Int32) < ((M.1 t 0 2) - (M.1 t 0 3))) → ∀ M5 : zM, (M5 = zmw M t 0 (upd (M.1 t 0) 4 (1 : Int32))) → K none M5) ∧ ((¬ (2 : Int32) < ((M.1 t 0 2) - (M.1 t 0 3))) → ∀ M6 : zM, (M6 = zmw M t 0 (upd (M.1 t 0) 4 (3 : Int32))) → K none M6)) ∧ ((¬ v4 = 0) → (((2 : Int32) ≤ ((M.1 t 0 2) - (M.1 t 0 3))) → ∀ M7 : zM, (M7 = zmw M t 0 (upd (M.1 t 0) 2 ((M.1 t 0 2) + (1 : Int32)))) → X 5 [some (zR t 0)] [] M7) ∧ ((¬ (2 : Int32) ≤ ((M.1 t 0 2) - (M.1 t 0 3))) → ∃ b8 : List Int, (RpB (M.1 t) b8) ∧ ∃ p8 : Nat, ((M.1 t 0 2).toInt = (p8 : Int)) ∧ (p8 ≤ b8.length) ∧ ∀ v8 : Int32, (v8.toInt = atB b8 p8) → ∀ M9 : zM, (M9 = zmw M t 0 (upd (M.1 t 0) 5 ((((M.1 t 0 5) * (10 : Int32)) + v8) - (48 : Int32)))) → ∀ M10 : zM, (M10 = zmw M9 t 0 (upd (M9.1 t 0) 2 ((M9.1 t 0 2) + (1 : Int32)))) → X 5 [some (zR t 0)] [] M10)))) : X 5 [some (zR t 0)] [] M := hX 36 5 _ [] M (show (kd t = 7) ∧ (kd t = 7) ∧ (((M.1 t 0 1) ≤ (M.1 t 0 2)) → (kd t = 7) ∧ (kd t = 7) ∧ (((2 : Int32) < ((M.1 t 0 2) - (M.1 t 0 3))) → (kd t = 7) ∧ ∀ M1 : zM, (M1 = zmw M t 0 (upd (M.1 t 0) 4 (1 : Int32))) → K none M1) ∧ ((¬ (2 : Int32) < ((M.1 t 0 2) - (M.1 t 0 3))) → (kd t = 7) ∧ ∀ M2 : zM, (M2 = zmw M t 0 (upd (M.1 t 0) 4 (3 : Int32))) → K none M2)) ∧ ((¬ (M.1 t 0 1) ≤ (M.1 t 0 2)) → (kd t = 7) ∧ ∃ b3 : List Int, (RpB (M.1 t) b3) ∧ ∃ p3 : Nat, ((M.1 t 0 2).toInt = (p3 : Int)) ∧ (p3 ≤ b3.length) ∧ ∀ v3 : Int32, (v3.toInt = atB b3 p3) → ∀ v4 : Int32, (v4 = zp (isFg v3.toInt = true)) → ((v4 = 0) → (kd t = 7) ∧ (kd t = 7) ∧ (((2 : Int32) < ((M.1 t 0 2) - (M.1 t 0 3))) → (kd t = 7) ∧ ∀ M5 : zM, (M5 = zmw M t 0 (upd (M.1 t 0) 4 (1 : Int32))) → K none M5) ∧ ((¬ (2 : Int32) < ((M.1 t 0 2) - (M.1 t 0 3))) → (kd t = 7) ∧ ∀ M6 : zM, (M6 = zmw M t 0 (upd (M.1 t 0) 4 (3 : Int32))) → K none M6)) ∧ ((¬ v4 = 0) → (kd t = 7) ∧ (kd t = 7) ∧ (((2 : Int32) ≤ ((M.1 t 0 2) - (M.1 t 0 3))) → (kd t = 7) ∧ (kd t = 7) ∧ ∀ M7 : zM, (M7 = zmw M t 0 (upd (M.1 t 0) 2 ((M.1 t 0 2) + (1 : Int32)))) → X 5 [some (zR t 0)] [] M7) ∧ ((¬ (2 : Int32) ≤ ((M.1 t 0 2) - (M.1 t 0 3))) → (kd t = 7) ∧ (kd t = 7) ∧ ∃ b8 : List Int, (RpB (M.1 t) b8) ∧ ∃ p8 : Nat, ((M.1 t 0 2).toInt = (p8 : Int)) ∧ (p8 ≤ b8.length) ∧ ∀ v8 : Int32, (v8.toInt = atB b8 p8) → (kd t = 7) ∧ ∀ M9 : zM, (M9 = zmw M t 0 (upd (M.1 t 0) 5 ((((M.1 t 0 5) * (10 : Int32)) + v8) - (48 : Int32)))) → (kd t = 7) ∧ (kd t = 7) ∧ ∀ M10 : zM, (M10 = zmw M9 t 0 (upd (M9.1 t 0) 2 ((M9.1 t 0 2) + (1 : Int32)))) → X 5 [some (zR t 0)] [] M10))) from ⟨hk0, ⟨hk0, ⟨fun q => have h := h.1 q; ⟨hk0, ⟨hk0, ⟨fun q => have h := h.1 q; ⟨hk0, fun M1 => have h := h M1; fun q => have h := h q; h⟩, fun q => have h := h.2 q; ⟨hk0, fun M2 => have h := h M2; fun q => have h := h q; h⟩⟩⟩⟩, fun q => have h := h.2 q; ⟨hk0, h.elim (fun b3 h => ⟨b3, ⟨h.1, have h := h.2; h.elim (fun p3 h => ⟨p3, ⟨h.1, have h := h.2; ⟨h.1, have h := h.2; fun v3 => have h := h v3; fun q => have h := h q; fun v4 => have h := h v4; fun q => have h := h q; ⟨fun q => have h := h.1 q; ⟨hk0, ⟨hk0, ⟨fun q => have h := h.1 q; ⟨hk0, fun M5 => have h := h M5; fun q => have h := h q; h⟩, fun q => have h := h.2 q; ⟨hk0, fun M6 => have h := h M6; fun q => have h := h q; h⟩⟩⟩⟩, fun q => have h := h.2 q; ⟨hk0, ⟨hk0, ⟨fun q => have h := h.1 q; ⟨hk0, ⟨hk0, fun M7 => have h := h M7; fun q => have h := h q; h⟩⟩, fun q => have h := h.2 q; ⟨hk0, ⟨hk0, h.elim (fun b8 h => ⟨b8, ⟨h.1, have h := h.2; h.elim (fun p8 h => ⟨p8, ⟨h.1, have h := h.2; ⟨h.1, have h := h.2; fun v8 => have h := h v8; fun q => have h := h q; ⟨hk0, fun M9 => have h := h M9; fun q => have h := h q; ⟨hk0, ⟨hk0, fun M10 => have h := h M10; fun q => have h := h q; h⟩⟩⟩⟩⟩⟩)⟩⟩)⟩⟩⟩⟩⟩⟩⟩⟩⟩)⟩⟩)⟩⟩⟩⟩)
def sp_X5_cutNext : zSpec := fun kd as M K => match as with
  | [.inr (.inr (.inl (t, 0)))] => (kd t = 7) ∧ ∃ b : List Int, (RpB (M.1 t) b) ∧ ∃ p : Nat, ((M.1 t 0 2).toInt = (p : Int)) ∧ (p ≤ b.length) ∧ ∀ S' : zB, (RpK S' b (tok b p)) → ∀ M' : zM, (M' = zbs M t S') → K none M'
  | _ => False
theorem rv_X5_cutNext : zrv sp_X5_cutNext 7 0 := by
  intro kd as M K h
  unfold sp_X5_cutNext at h
  split at h
  · exact ⟨_, _, rfl, h.1⟩
  · exact h.elim
theorem dd_X5_cutNext_0 : decode cX5_cutNext 0 = .ok (.aload_n 0, 1) := by decide +kernel
theorem dd_X5_cutNext_1 : decode cX5_cutNext 1 = .ok (.getfield 19, 3) := by decide +kernel
theorem dd_X5_cutNext_4 : decode cX5_cutNext 4 = .ok (.aload_n 0, 1) := by decide +kernel
theorem dd_X5_cutNext_5 : decode cX5_cutNext 5 = .ok (.getfield 15, 3) := by decide +kernel
theorem dd_X5_cutNext_8 : decode cX5_cutNext 8 = .ok (.if_icmp .ge 25, 3) := by decide +kernel
theorem dd_X5_cutNext_11 : decode cX5_cutNext 11 = .ok (.aload_n 0, 1) := by decide +kernel
theorem dd_X5_cutNext_12 : decode cX5_cutNext 12 = .ok (.invokevirtual 34, 3) := by decide +kernel
theorem dd_X5_cutNext_15 : decode cX5_cutNext 15 = .ok (.bipush 32, 2) := by decide +kernel
theorem dd_X5_cutNext_17 : decode cX5_cutNext 17 = .ok (.if_icmp .ne 16, 3) := by decide +kernel
theorem dd_X5_cutNext_20 : decode cX5_cutNext 20 = .ok (.aload_n 0, 1) := by decide +kernel
theorem dd_X5_cutNext_21 : decode cX5_cutNext 21 = .ok (.dup, 1) := by decide +kernel
theorem dd_X5_cutNext_22 : decode cX5_cutNext 22 = .ok (.getfield 19, 3) := by decide +kernel
theorem dd_X5_cutNext_25 : decode cX5_cutNext 25 = .ok (.iconst 1, 1) := by decide +kernel
theorem dd_X5_cutNext_26 : decode cX5_cutNext 26 = .ok (.iadd, 1) := by decide +kernel
theorem dd_X5_cutNext_27 : decode cX5_cutNext 27 = .ok (.putfield 19, 3) := by decide +kernel
theorem dd_X5_cutNext_30 : decode cX5_cutNext 30 = .ok (.goto (-30), 3) := by decide +kernel
theorem dd_X5_cutNext_33 : decode cX5_cutNext 33 = .ok (.aload_n 0, 1) := by decide +kernel
theorem dd_X5_cutNext_34 : decode cX5_cutNext 34 = .ok (.aload_n 0, 1) := by decide +kernel
theorem dd_X5_cutNext_35 : decode cX5_cutNext 35 = .ok (.getfield 19, 3) := by decide +kernel
theorem dd_X5_cutNext_38 : decode cX5_cutNext 38 = .ok (.putfield 22, 3) := by decide +kernel
theorem dd_X5_cutNext_41 : decode cX5_cutNext 41 = .ok (.aload_n 0, 1) := by decide +kernel
theorem dd_X5_cutNext_42 : decode cX5_cutNext 42 = .ok (.invokevirtual 34, 3) := by decide +kernel
theorem dd_X5_cutNext_45 : decode cX5_cutNext 45 = .ok (.istore_n 1, 1) := by decide +kernel
theorem dd_X5_cutNext_46 : decode cX5_cutNext 46 = .ok (.iload_n 1, 1) := by decide +kernel
theorem dd_X5_cutNext_47 : decode cX5_cutNext 47 = .ok (.invokestatic 38, 3) := by decide +kernel
theorem dd_X5_cutNext_50 : decode cX5_cutNext 50 = .ok (.ifCond .eq 10, 3) := by decide +kernel
theorem dd_X5_cutNext_53 : decode cX5_cutNext 53 = .ok (.aload_n 0, 1) := by decide +kernel
theorem dd_X5_cutNext_54 : decode cX5_cutNext 54 = .ok (.invokevirtual 42, 3) := by decide +kernel
theorem dd_X5_cutNext_57 : decode cX5_cutNext 57 = .ok (.goto 55, 3) := by decide +kernel
theorem dd_X5_cutNext_60 : decode cX5_cutNext 60 = .ok (.iload_n 1, 1) := by decide +kernel
theorem dd_X5_cutNext_61 : decode cX5_cutNext 61 = .ok (.invokestatic 45, 3) := by decide +kernel
theorem dd_X5_cutNext_64 : decode cX5_cutNext 64 = .ok (.ifCond .eq 10, 3) := by decide +kernel
theorem dd_X5_cutNext_67 : decode cX5_cutNext 67 = .ok (.aload_n 0, 1) := by decide +kernel
theorem dd_X5_cutNext_68 : decode cX5_cutNext 68 = .ok (.invokevirtual 48, 3) := by decide +kernel
theorem dd_X5_cutNext_71 : decode cX5_cutNext 71 = .ok (.goto 41, 3) := by decide +kernel
theorem dd_X5_cutNext_74 : decode cX5_cutNext 74 = .ok (.iload_n 1, 1) := by decide +kernel
theorem dd_X5_cutNext_75 : decode cX5_cutNext 75 = .ok (.iconst (-1), 1) := by decide +kernel
theorem dd_X5_cutNext_76 : decode cX5_cutNext 76 = .ok (.if_icmp .ne 11, 3) := by decide +kernel
theorem dd_X5_cutNext_79 : decode cX5_cutNext 79 = .ok (.aload_n 0, 1) := by decide +kernel
theorem dd_X5_cutNext_80 : decode cX5_cutNext 80 = .ok (.iconst 0, 1) := by decide +kernel
theorem dd_X5_cutNext_81 : decode cX5_cutNext 81 = .ok (.putfield 25, 3) := by decide +kernel
theorem dd_X5_cutNext_84 : decode cX5_cutNext 84 = .ok (.goto 28, 3) := by decide +kernel
theorem dd_X5_cutNext_87 : decode cX5_cutNext 87 = .ok (.aload_n 0, 1) := by decide +kernel
theorem dd_X5_cutNext_88 : decode cX5_cutNext 88 = .ok (.iload_n 1, 1) := by decide +kernel
theorem dd_X5_cutNext_89 : decode cX5_cutNext 89 = .ok (.bipush 59, 2) := by decide +kernel
theorem dd_X5_cutNext_91 : decode cX5_cutNext 91 = .ok (.if_icmp .ne 7, 3) := by decide +kernel
theorem dd_X5_cutNext_94 : decode cX5_cutNext 94 = .ok (.iconst 2, 1) := by decide +kernel
theorem dd_X5_cutNext_95 : decode cX5_cutNext 95 = .ok (.goto 4, 3) := by decide +kernel
theorem dd_X5_cutNext_98 : decode cX5_cutNext 98 = .ok (.iconst 1, 1) := by decide +kernel
theorem dd_X5_cutNext_99 : decode cX5_cutNext 99 = .ok (.putfield 25, 3) := by decide +kernel
theorem dd_X5_cutNext_102 : decode cX5_cutNext 102 = .ok (.aload_n 0, 1) := by decide +kernel
theorem dd_X5_cutNext_103 : decode cX5_cutNext 103 = .ok (.dup, 1) := by decide +kernel
theorem dd_X5_cutNext_104 : decode cX5_cutNext 104 = .ok (.getfield 19, 3) := by decide +kernel
theorem dd_X5_cutNext_107 : decode cX5_cutNext 107 = .ok (.iconst 1, 1) := by decide +kernel
theorem dd_X5_cutNext_108 : decode cX5_cutNext 108 = .ok (.iadd, 1) := by decide +kernel
theorem dd_X5_cutNext_109 : decode cX5_cutNext 109 = .ok (.putfield 19, 3) := by decide +kernel
theorem dd_X5_cutNext_112 : decode cX5_cutNext 112 = .ok (.return_, 1) := by decide +kernel
def tb_X5_cutNext (kd : Nat → Nat) (K : zK) : zTab := [(0, zt_aload 0 1), (1, zt_getI kd 7 2 4), (4, zt_aload 0 5), (5, zt_getI kd 7 1 8), (8, zt_icmp (fun x y => y ≤ x) (fun x y => ¬ y ≤ x) 33 11), (11, zt_aload 0 12), (12, zt_call kd sp_X5_peek 1 15), (15, zt_const (zI 32) 17), (17, zt_icmp (fun x y => ¬ x = y) (fun x y => x = y) 33 20), (20, zt_aload 0 21), (21, zt_dup 22), (22, zt_getI kd 7 2 25), (25, zt_const (zI 1) 26), (26, zt_bin (fun x y => x + y) 27), (27, zt_putI kd 7 2 30), (30, zt_goto 0), (33, zt_aload 0 34), (34, zt_aload 0 35), (35, zt_getI kd 7 2 38), (38, zt_putI kd 7 3 41), (41, zt_aload 0 42), (42, zt_call kd sp_X5_peek 1 45), (45, zt_istore 1 46), (46, zt_iload 1 47), (47, zt_call kd sp_X5_isLetter 1 50), (50, zt_if (fun x => x = 0) (fun x => ¬ x = 0) 60 53), (53, zt_aload 0 54), (54, zt_call kd sp_X5_cutWord 1 57), (57, zt_goto 112), (60, zt_iload 1 61), (61, zt_call kd sp_X5_isFigure 1 64), (64, zt_if (fun x => x = 0) (fun x => ¬ x = 0) 74 67), (67, zt_aload 0 68), (68, zt_call kd sp_X5_cutNumber 1 71), (71, zt_goto 112), (74, zt_iload 1 75), (75, zt_const (zI (-1)) 76), (76, zt_icmp (fun x y => ¬ x = y) (fun x y => x = y) 87 79), (79, zt_aload 0 80), (80, zt_const (zI 0) 81), (81, zt_putI kd 7 4 84), (84, zt_goto 112), (87, zt_aload 0 88), (88, zt_iload 1 89), (89, zt_const (zI 59) 91), (91, zt_icmp (fun x y => ¬ x = y) (fun x y => x = y) 98 94), (94, zt_const (zI 2) 95), (95, zt_goto 99), (98, zt_const (zI 1) 99), (99, zt_putI kd 7 4 102), (102, zt_aload 0 103), (103, zt_dup 104), (104, zt_getI kd 7 2 107), (107, zt_const (zI 1) 108), (108, zt_bin (fun x y => x + y) 109), (109, zt_putI kd 7 2 112), (112, zt_vret K)]
set_option maxRecDepth 20000 in
theorem tk_X5_cutNext (d : Nat) (h_X5_peek : zMS 1 yX5_peek cX5_peek 1 (some .int) sp_X5_peek) (h_X5_isLetter : zMS 1 yX5_isLetter cX5_isLetter 1 (some .boolean) sp_X5_isLetter) (h_X5_cutWord : zMS 2 yX5_cutWord cX5_cutWord 1 none sp_X5_cutWord) (h_X5_isFigure : zMS 1 yX5_isFigure cX5_isFigure 1 (some .boolean) sp_X5_isFigure) (h_X5_cutNumber : zMS 2 yX5_cutNumber cX5_cutNumber 1 none sp_X5_cutNumber) : zTrue RX5 cX5_cutNext 2 none (d + 3) (fun kd K => tb_X5_cutNext kd K) := by
  intro p l e R s m args below meth c D cy A ad bl Qm K C0 hr hlocks hQ
  obtain ⟨hx, hb, hml, hown, hts, hK, hD, hA0, hN, hE, ⟨hR1, hR2⟩, hc1, hc2⟩ := id C0
  unfold tb_X5_cutNext
  refine List.forall_mem_cons.mpr ⟨ok_aload_n hx hb rfl dd_X5_cutNext_0, ?_⟩
  refine List.forall_mem_cons.mpr ⟨ok_getI (j := 2) hx hb hts zi_X5 hown hK zc_X5 (by decide) rfl (fun t fl h => by cases h; rfl) (hts _ wd_250) dd_X5_cutNext_1, ?_⟩
  refine List.forall_mem_cons.mpr ⟨ok_aload_n hx hb rfl dd_X5_cutNext_4, ?_⟩
  refine List.forall_mem_cons.mpr ⟨ok_getI (j := 1) hx hb hts zi_X5 hown hK zc_X5 (by decide) rfl (fun t fl h => by cases h; rfl) (hts _ wd_248) dd_X5_cutNext_5, ?_⟩
  refine List.forall_mem_cons.mpr ⟨ok_icmp_ge hx hb dd_X5_cutNext_8 (by decide), ?_⟩
  refine List.forall_mem_cons.mpr ⟨ok_aload_n hx hb rfl dd_X5_cutNext_11, ?_⟩
  refine List.forall_mem_cons.mpr ⟨ok_callV (n := 0) zc_X5 rv_X5_peek C0 (h_X5_peek (d + 2) (by omega)) (by decide) wd_426 wd_423 wd_425 wd_18 wd_106 ⟨rfl, by decide +kernel, by decide +kernel, by decide +kernel⟩ dd_X5_cutNext_12, ?_⟩
  refine List.forall_mem_cons.mpr ⟨ok_bipush hx hb dd_X5_cutNext_15 (by decide), ?_⟩
  refine List.forall_mem_cons.mpr ⟨ok_icmp_ne hx hb dd_X5_cutNext_17 (by decide), ?_⟩
  refine List.forall_mem_cons.mpr ⟨ok_aload_n hx hb rfl dd_X5_cutNext_20, ?_⟩
  refine List.forall_mem_cons.mpr ⟨ok_dup hx hb dd_X5_cutNext_21, ?_⟩
  refine List.forall_mem_cons.mpr ⟨ok_getI (j := 2) hx hb hts zi_X5 hown hK zc_X5 (by decide) rfl (fun t fl h => by cases h; rfl) (hts _ wd_250) dd_X5_cutNext_22, ?_⟩
  refine List.forall_mem_cons.mpr ⟨ok_iconst hx hb dd_X5_cutNext_25 (by decide), ?_⟩
  refine List.forall_mem_cons.mpr ⟨ok_iadd hx hb dd_X5_cutNext_26, ?_⟩
  refine List.forall_mem_cons.mpr ⟨ok_putI (j := 2) hx hb hts zi_X5 tyX5 tyX5_ok nmX5 hown hK hD zc_X5 (by decide) rfl rfl (by decide +kernel) (fun t fl h => by cases h; rfl) (hts _ wd_250) dd_X5_cutNext_27, ?_⟩
  refine List.forall_mem_cons.mpr ⟨ok_goto hx hb dd_X5_cutNext_30 (by decide), ?_⟩
  refine List.forall_mem_cons.mpr ⟨ok_aload_n hx hb rfl dd_X5_cutNext_33, ?_⟩
  refine List.forall_mem_cons.mpr ⟨ok_aload_n hx hb rfl dd_X5_cutNext_34, ?_⟩
  refine List.forall_mem_cons.mpr ⟨ok_getI (j := 2) hx hb hts zi_X5 hown hK zc_X5 (by decide) rfl (fun t fl h => by cases h; rfl) (hts _ wd_250) dd_X5_cutNext_35, ?_⟩
  refine List.forall_mem_cons.mpr ⟨ok_putI (j := 3) hx hb hts zi_X5 tyX5 tyX5_ok nmX5 hown hK hD zc_X5 (by decide) rfl rfl (by decide +kernel) (fun t fl h => by cases h; rfl) (hts _ wd_251) dd_X5_cutNext_38, ?_⟩
  refine List.forall_mem_cons.mpr ⟨ok_aload_n hx hb rfl dd_X5_cutNext_41, ?_⟩
  refine List.forall_mem_cons.mpr ⟨ok_callV (n := 0) zc_X5 rv_X5_peek C0 (h_X5_peek (d + 2) (by omega)) (by decide) wd_426 wd_423 wd_425 wd_18 wd_106 ⟨rfl, by decide +kernel, by decide +kernel, by decide +kernel⟩ dd_X5_cutNext_42, ?_⟩
  refine List.forall_mem_cons.mpr ⟨ok_istore_n hx hb rfl dd_X5_cutNext_45, ?_⟩
  refine List.forall_mem_cons.mpr ⟨ok_iload_n hx hb rfl dd_X5_cutNext_46, ?_⟩
  refine List.forall_mem_cons.mpr ⟨ok_callS (n := 1) C0 (h_X5_isLetter (d + 2) (by omega)) (by decide) wd_429 wd_427 wd_428 wd_106 ⟨by decide +kernel, by decide +kernel, by decide +kernel⟩ dd_X5_cutNext_47, ?_⟩
  refine List.forall_mem_cons.mpr ⟨ok_if_eq hx hb dd_X5_cutNext_50 (by decide), ?_⟩
  refine List.forall_mem_cons.mpr ⟨ok_aload_n hx hb rfl dd_X5_cutNext_53, ?_⟩
  refine List.forall_mem_cons.mpr ⟨ok_callV (n := 0) zc_X5 rv_X5_cutWord C0 (h_X5_cutWord (d + 2) (by omega)) (by decide) wd_433 wd_430 wd_432 wd_19 wd_106 ⟨rfl, by decide +kernel, by decide +kernel, by decide +kernel⟩ dd_X5_cutNext_54, ?_⟩
  refine List.forall_mem_cons.mpr ⟨ok_goto hx hb dd_X5_cutNext_57 (by decide), ?_⟩
  refine List.forall_mem_cons.mpr ⟨ok_iload_n hx hb rfl dd_X5_cutNext_60, ?_⟩
  refine List.forall_mem_cons.mpr ⟨ok_callS (n := 1) C0 (h_X5_isFigure (d + 2) (by omega)) (by decide) wd_436 wd_434 wd_435 wd_106 ⟨by decide +kernel, by decide +kernel, by decide +kernel⟩ dd_X5_cutNext_61, ?_⟩
  refine List.forall_mem_cons.mpr ⟨ok_if_eq hx hb dd_X5_cutNext_64 (by decide), ?_⟩
  refine List.forall_mem_cons.mpr ⟨ok_aload_n hx hb rfl dd_X5_cutNext_67, ?_⟩
  refine List.forall_mem_cons.mpr ⟨ok_callV (n := 0) zc_X5 rv_X5_cutNumber C0 (h_X5_cutNumber (d + 2) (by omega)) (by decide) wd_440 wd_437 wd_439 wd_20 wd_106 ⟨rfl, by decide +kernel, by decide +kernel, by decide +kernel⟩ dd_X5_cutNext_68, ?_⟩
  refine List.forall_mem_cons.mpr ⟨ok_goto hx hb dd_X5_cutNext_71 (by decide), ?_⟩
  refine List.forall_mem_cons.mpr ⟨ok_iload_n hx hb rfl dd_X5_cutNext_74, ?_⟩
  refine List.forall_mem_cons.mpr ⟨ok_iconst hx hb dd_X5_cutNext_75 (by decide), ?_⟩
  refine List.forall_mem_cons.mpr ⟨ok_icmp_ne hx hb dd_X5_cutNext_76 (by decide), ?_⟩
  refine List.forall_mem_cons.mpr ⟨ok_aload_n hx hb rfl dd_X5_cutNext_79, ?_⟩
  refine List.forall_mem_cons.mpr ⟨ok_iconst hx hb dd_X5_cutNext_80 (by decide), ?_⟩
  refine List.forall_mem_cons.mpr ⟨ok_putI (j := 4) hx hb hts zi_X5 tyX5 tyX5_ok nmX5 hown hK hD zc_X5 (by decide) rfl rfl (by decide +kernel) (fun t fl h => by cases h; rfl) (hts _ wd_253) dd_X5_cutNext_81, ?_⟩
  refine List.forall_mem_cons.mpr ⟨ok_goto hx hb dd_X5_cutNext_84 (by decide), ?_⟩
  refine List.forall_mem_cons.mpr ⟨ok_aload_n hx hb rfl dd_X5_cutNext_87, ?_⟩
  refine List.forall_mem_cons.mpr ⟨ok_iload_n hx hb rfl dd_X5_cutNext_88, ?_⟩
  refine List.forall_mem_cons.mpr ⟨ok_bipush hx hb dd_X5_cutNext_89 (by decide), ?_⟩
  refine List.forall_mem_cons.mpr ⟨ok_icmp_ne hx hb dd_X5_cutNext_91 (by decide), ?_⟩
  refine List.forall_mem_cons.mpr ⟨ok_iconst hx hb dd_X5_cutNext_94 (by decide), ?_⟩
  refine List.forall_mem_cons.mpr ⟨ok_goto hx hb dd_X5_cutNext_95 (by decide), ?_⟩
  refine List.forall_mem_cons.mpr ⟨ok_iconst hx hb dd_X5_cutNext_98 (by decide), ?_⟩
  refine List.forall_mem_cons.mpr ⟨ok_putI (j := 4) hx hb hts zi_X5 tyX5 tyX5_ok nmX5 hown hK hD zc_X5 (by decide) rfl rfl (by decide +kernel) (fun t fl h => by cases h; rfl) (hts _ wd_253) dd_X5_cutNext_99, ?_⟩
  refine List.forall_mem_cons.mpr ⟨ok_aload_n hx hb rfl dd_X5_cutNext_102, ?_⟩
  refine List.forall_mem_cons.mpr ⟨ok_dup hx hb dd_X5_cutNext_103, ?_⟩
  refine List.forall_mem_cons.mpr ⟨ok_getI (j := 2) hx hb hts zi_X5 hown hK zc_X5 (by decide) rfl (fun t fl h => by cases h; rfl) (hts _ wd_250) dd_X5_cutNext_104, ?_⟩
  refine List.forall_mem_cons.mpr ⟨ok_iconst hx hb dd_X5_cutNext_107 (by decide), ?_⟩
  refine List.forall_mem_cons.mpr ⟨ok_iadd hx hb dd_X5_cutNext_108, ?_⟩
  refine List.forall_mem_cons.mpr ⟨ok_putI (j := 2) hx hb hts zi_X5 tyX5 tyX5_ok nmX5 hown hK hD zc_X5 (by decide) rfl rfl (by decide +kernel) (fun t fl h => by cases h; rfl) (hts _ wd_250) dd_X5_cutNext_109, ?_⟩
  refine List.forall_mem_cons.mpr ⟨ok_vret hx hb hr hlocks hQ dd_X5_cutNext_112, ?_⟩
  exact fun _ h => absurd h List.not_mem_nil
set_option maxRecDepth 100000 in
theorem vc_X5_cutNext_0 {kd : Nat → Nat} {K : zK} {X : zX} (hX : ∀ (n pc : Nat) (ls : zLS) (st : List zV) (M : zM), zrun (tb_X5_cutNext kd K) [(0, [1]), (33, [1])] n X pc ls st M → X pc ls st M) {t : Nat} {M : zM} (hk0 : kd t = 7) (h : (((M.1 t 0 1) ≤ (M.1 t 0 2)) → X 33 [some (zR t 0), none] [] M) ∧ ((¬ (M.1 t 0 1) ≤ (M.1 t 0 2)) → ∃ b1 : List Int, (RpB (M.1 t) b1) ∧ ∃ p1 : Nat, ((M.1 t 0 2).toInt = (p1 : Int)) ∧ (p1 ≤ b1.length) ∧ ∀ v1 : Int32, (v1.toInt = atB b1 p1) → ((¬ v1 = (32 : Int32)) → X 33 [some (zR t 0), none] [] M) ∧ ((v1 = (32 : Int32)) → ∀ M2 : zM, (M2 = zmw M t 0 (upd (M.1 t 0) 2 ((M.1 t 0 2) + (1 : Int32)))) → X 0 [some (zR t 0), none] [] M2))) : X 0 [some (zR t 0), none] [] M := hX 18 0 _ [] M (show (kd t = 7) ∧ (kd t = 7) ∧ (((M.1 t 0 1) ≤ (M.1 t 0 2)) → X 33 [some (zR t 0), none] [] M) ∧ ((¬ (M.1 t 0 1) ≤ (M.1 t 0 2)) → (kd t = 7) ∧ ∃ b1 : List Int, (RpB (M.1 t) b1) ∧ ∃ p1 : Nat, ((M.1 t 0 2).toInt = (p1 : Int)) ∧ (p1 ≤ b1.length) ∧ ∀ v1 : Int32, (v1.toInt = atB b1 p1) → ((¬ v1 = (32 : Int32)) → X 33 [some (zR t 0), none] [] M) ∧ ((v1 = (32 : Int32)) → (kd t = 7) ∧ (kd t = 7) ∧ ∀ M2 : zM, (M2 = zmw M t 0 (upd (M.1 t 0) 2 ((M.1 t 0 2) + (1 : Int32)))) → X 0 [some (zR t 0), none] [] M2)) from ⟨hk0, ⟨hk0, ⟨fun q => have h := h.1 q; h, fun q => have h := h.2 q; ⟨hk0, h.elim (fun b1 h => ⟨b1, ⟨h.1, have h := h.2; h.elim (fun p1 h => ⟨p1, ⟨h.1, have h := h.2; ⟨h.1, have h := h.2; fun v1 => have h := h v1; fun q => have h := h q; ⟨fun q => have h := h.1 q; h, fun q => have h := h.2 q; ⟨hk0, ⟨hk0, fun M2 => have h := h M2; fun q => have h := h q; h⟩⟩⟩⟩⟩⟩)⟩⟩)⟩⟩⟩⟩)
set_option maxRecDepth 100000 in
theorem vc_X5_cutNext_33 {kd : Nat → Nat} {K : zK} {X : zX} (hX : ∀ (n pc : Nat) (ls : zLS) (st : List zV) (M : zM), zrun (tb_X5_cutNext kd K) [(0, [1]), (33, [1])] n X pc ls st M → X pc ls st M) {t : Nat} {M : zM} (hk0 : kd t = 7) (h : ∀ M1 : zM, (M1 = zmw M t 0 (upd (M.1 t 0) 3 (M.1 t 0 2))) → ∃ b2 : List Int, (RpB (M1.1 t) b2) ∧ ∃ p2 : Nat, ((M1.1 t 0 2).toInt = (p2 : Int)) ∧ (p2 ≤ b2.length) ∧ ∀ v2 : Int32, (v2.toInt = atB b2 p2) → ∀ v3 : Int32, (v3 = zp (isLt v2.toInt = true)) → ((v3 = 0) → ∀ v4 : Int32, (v4 = zp (isFg v2.toInt = true)) → ((v4 = 0) → ((¬ v2 = (-1 : Int32)) → ((¬ v2 = (59 : Int32)) → ∀ M5 : zM, (M5 = zmw M1 t 0 (upd (M1.1 t 0) 4 (1 : Int32))) → ∀ M6 : zM, (M6 = zmw M5 t 0 (upd (M5.1 t 0) 2 ((M5.1 t 0 2) + (1 : Int32)))) → K none M6) ∧ ((v2 = (59 : Int32)) → ∀ M7 : zM, (M7 = zmw M1 t 0 (upd (M1.1 t 0) 4 (2 : Int32))) → ∀ M8 : zM, (M8 = zmw M7 t 0 (upd (M7.1 t 0) 2 ((M7.1 t 0 2) + (1 : Int32)))) → K none M8)) ∧ ((v2 = (-1 : Int32)) → ∀ M9 : zM, (M9 = zmw M1 t 0 (upd (M1.1 t 0) 4 (0 : Int32))) → K none M9)) ∧ ((¬ v4 = 0) → ∃ b10 : List Int, (RpB (M1.1 t) b10) ∧ ∃ p10 : Nat, ((M1.1 t 0 2).toInt = (p10 : Int)) ∧ ((M1.1 t 0 3).toInt = (p10 : Int)) ∧ (p10 ≤ b10.length) ∧ (isFg (atB b10 p10) = true) ∧ ∀ S10 : zB, (RpB S10 b10 ∧ (S10 0 2).toInt = (skW isFg b10 p10 : Int) ∧ S10 0 3 = M1.1 t 0 3 ∧ (S10 0 4).toInt = (if skW isFg b10 p10 - p10 ≤ 2 then 3 else 1) ∧ (S10 0 5).toInt = dig2 b10 p10 (skW isFg b10 p10)) → ∀ M10 : zM, (M10 = zbs M1 t S10) → K none M10)) ∧ ((¬ v3 = 0) → ∃ b11 : List Int, (RpB (M1.1 t) b11) ∧ ∃ p11 : Nat, ((M1.1 t 0 2).toInt = (p11 : Int)) ∧ (p11 ≤ b11.length) ∧ ∀ S11 : zB, (RpB S11 b11 ∧ (S11 0 2).toInt = (skW isLt b11 p11 : Int) ∧ S11 0 3 = M1.1 t 0 3 ∧ (S11 0 4).toInt = 4) → ∀ M11 : zM, (M11 = zbs M1 t S11) → K none M11)) : X 33 [some (zR t 0), none] [] M := hX 31 33 _ [] M (show (kd t = 7) ∧ (kd t = 7) ∧ ∀ M1 : zM, (M1 = zmw M t 0 (upd (M.1 t 0) 3 (M.1 t 0 2))) → (kd t = 7) ∧ ∃ b2 : List Int, (RpB (M1.1 t) b2) ∧ ∃ p2 : Nat, ((M1.1 t 0 2).toInt = (p2 : Int)) ∧ (p2 ≤ b2.length) ∧ ∀ v2 : Int32, (v2.toInt = atB b2 p2) → ∀ v3 : Int32, (v3 = zp (isLt v2.toInt = true)) → ((v3 = 0) → ∀ v4 : Int32, (v4 = zp (isFg v2.toInt = true)) → ((v4 = 0) → ((¬ v2 = (-1 : Int32)) → ((¬ v2 = (59 : Int32)) → (kd t = 7) ∧ ∀ M5 : zM, (M5 = zmw M1 t 0 (upd (M1.1 t 0) 4 (1 : Int32))) → (kd t = 7) ∧ (kd t = 7) ∧ ∀ M6 : zM, (M6 = zmw M5 t 0 (upd (M5.1 t 0) 2 ((M5.1 t 0 2) + (1 : Int32)))) → K none M6) ∧ ((v2 = (59 : Int32)) → (kd t = 7) ∧ ∀ M7 : zM, (M7 = zmw M1 t 0 (upd (M1.1 t 0) 4 (2 : Int32))) → (kd t = 7) ∧ (kd t = 7) ∧ ∀ M8 : zM, (M8 = zmw M7 t 0 (upd (M7.1 t 0) 2 ((M7.1 t 0 2) + (1 : Int32)))) → K none M8)) ∧ ((v2 = (-1 : Int32)) → (kd t = 7) ∧ ∀ M9 : zM, (M9 = zmw M1 t 0 (upd (M1.1 t 0) 4 (0 : Int32))) → K none M9)) ∧ ((¬ v4 = 0) → (kd t = 7) ∧ ∃ b10 : List Int, (RpB (M1.1 t) b10) ∧ ∃ p10 : Nat, ((M1.1 t 0 2).toInt = (p10 : Int)) ∧ ((M1.1 t 0 3).toInt = (p10 : Int)) ∧ (p10 ≤ b10.length) ∧ (isFg (atB b10 p10) = true) ∧ ∀ S10 : zB, (RpB S10 b10 ∧ (S10 0 2).toInt = (skW isFg b10 p10 : Int) ∧ S10 0 3 = M1.1 t 0 3 ∧ (S10 0 4).toInt = (if skW isFg b10 p10 - p10 ≤ 2 then 3 else 1) ∧ (S10 0 5).toInt = dig2 b10 p10 (skW isFg b10 p10)) → ∀ M10 : zM, (M10 = zbs M1 t S10) → K none M10)) ∧ ((¬ v3 = 0) → (kd t = 7) ∧ ∃ b11 : List Int, (RpB (M1.1 t) b11) ∧ ∃ p11 : Nat, ((M1.1 t 0 2).toInt = (p11 : Int)) ∧ (p11 ≤ b11.length) ∧ ∀ S11 : zB, (RpB S11 b11 ∧ (S11 0 2).toInt = (skW isLt b11 p11 : Int) ∧ S11 0 3 = M1.1 t 0 3 ∧ (S11 0 4).toInt = 4) → ∀ M11 : zM, (M11 = zbs M1 t S11) → K none M11) from ⟨hk0, ⟨hk0, fun M1 => have h := h M1; fun q => have h := h q; ⟨hk0, h.elim (fun b2 h => ⟨b2, ⟨h.1, have h := h.2; h.elim (fun p2 h => ⟨p2, ⟨h.1, have h := h.2; ⟨h.1, have h := h.2; fun v2 => have h := h v2; fun q => have h := h q; fun v3 => have h := h v3; fun q => have h := h q; ⟨fun q => have h := h.1 q; fun v4 => have h := h v4; fun q => have h := h q; ⟨fun q => have h := h.1 q; ⟨fun q => have h := h.1 q; ⟨fun q => have h := h.1 q; ⟨hk0, fun M5 => have h := h M5; fun q => have h := h q; ⟨hk0, ⟨hk0, fun M6 => have h := h M6; fun q => have h := h q; h⟩⟩⟩, fun q => have h := h.2 q; ⟨hk0, fun M7 => have h := h M7; fun q => have h := h q; ⟨hk0, ⟨hk0, fun M8 => have h := h M8; fun q => have h := h q; h⟩⟩⟩⟩, fun q => have h := h.2 q; ⟨hk0, fun M9 => have h := h M9; fun q => have h := h q; h⟩⟩, fun q => have h := h.2 q; ⟨hk0, h.elim (fun b10 h => ⟨b10, ⟨h.1, have h := h.2; h.elim (fun p10 h => ⟨p10, ⟨h.1, have h := h.2; ⟨h.1, have h := h.2; ⟨h.1, have h := h.2; ⟨h.1, have h := h.2; fun S10 => have h := h S10; fun q => have h := h q; fun M10 => have h := h M10; fun q => have h := h q; h⟩⟩⟩⟩⟩)⟩⟩)⟩⟩, fun q => have h := h.2 q; ⟨hk0, h.elim (fun b11 h => ⟨b11, ⟨h.1, have h := h.2; h.elim (fun p11 h => ⟨p11, ⟨h.1, have h := h.2; ⟨h.1, have h := h.2; fun S11 => have h := h S11; fun q => have h := h q; fun M11 => have h := h M11; fun q => have h := h q; h⟩⟩⟩)⟩⟩)⟩⟩⟩⟩⟩)⟩⟩)⟩⟩⟩)
def sp_X5_cutFirst : zSpec := fun kd as M K => match as with
  | [.inr (.inr (.inl (t, 0)))] => (kd t = 7) ∧ ∃ b : List Int, (RpB (M.1 t) b) ∧ ∀ S' : zB, (RpK S' b (tok b 0)) → ∀ M' : zM, (M' = zbs M t S') → K none M'
  | _ => False
theorem rv_X5_cutFirst : zrv sp_X5_cutFirst 7 0 := by
  intro kd as M K h
  unfold sp_X5_cutFirst at h
  split at h
  · exact ⟨_, _, rfl, h.1⟩
  · exact h.elim
theorem dd_X5_cutFirst_0 : decode cX5_cutFirst 0 = .ok (.aload_n 0, 1) := by decide +kernel
theorem dd_X5_cutFirst_1 : decode cX5_cutFirst 1 = .ok (.iconst 0, 1) := by decide +kernel
theorem dd_X5_cutFirst_2 : decode cX5_cutFirst 2 = .ok (.putfield 19, 3) := by decide +kernel
theorem dd_X5_cutFirst_5 : decode cX5_cutFirst 5 = .ok (.aload_n 0, 1) := by decide +kernel
theorem dd_X5_cutFirst_6 : decode cX5_cutFirst 6 = .ok (.invokevirtual 31, 3) := by decide +kernel
theorem dd_X5_cutFirst_9 : decode cX5_cutFirst 9 = .ok (.return_, 1) := by decide +kernel
def tb_X5_cutFirst (kd : Nat → Nat) (K : zK) : zTab := [(0, zt_aload 0 1), (1, zt_const (zI 0) 2), (2, zt_putI kd 7 2 5), (5, zt_aload 0 6), (6, zt_call kd sp_X5_cutNext 1 9), (9, zt_vret K)]
set_option maxRecDepth 20000 in
theorem tk_X5_cutFirst (d : Nat) (h_X5_cutNext : zMS 3 yX5_cutNext cX5_cutNext 2 none sp_X5_cutNext) : zTrue RX5 cX5_cutFirst 1 none (d + 4) (fun kd K => tb_X5_cutFirst kd K) := by
  intro p l e R s m args below meth c D cy A ad bl Qm K C0 hr hlocks hQ
  obtain ⟨hx, hb, hml, hown, hts, hK, hD, hA0, hN, hE, ⟨hR1, hR2⟩, hc1, hc2⟩ := id C0
  unfold tb_X5_cutFirst
  refine List.forall_mem_cons.mpr ⟨ok_aload_n hx hb rfl dd_X5_cutFirst_0, ?_⟩
  refine List.forall_mem_cons.mpr ⟨ok_iconst hx hb dd_X5_cutFirst_1 (by decide), ?_⟩
  refine List.forall_mem_cons.mpr ⟨ok_putI (j := 2) hx hb hts zi_X5 tyX5 tyX5_ok nmX5 hown hK hD zc_X5 (by decide) rfl rfl (by decide +kernel) (fun t fl h => by cases h; rfl) (hts _ wd_250) dd_X5_cutFirst_2, ?_⟩
  refine List.forall_mem_cons.mpr ⟨ok_aload_n hx hb rfl dd_X5_cutFirst_5, ?_⟩
  refine List.forall_mem_cons.mpr ⟨ok_callV (n := 0) zc_X5 rv_X5_cutNext C0 (h_X5_cutNext (d + 3) (by omega)) (by decide) wd_422 wd_419 wd_421 wd_17 wd_106 ⟨rfl, by decide +kernel, by decide +kernel, by decide +kernel⟩ dd_X5_cutFirst_6, ?_⟩
  refine List.forall_mem_cons.mpr ⟨ok_vret hx hb hr hlocks hQ dd_X5_cutFirst_9, ?_⟩
  exact fun _ h => absurd h List.not_mem_nil
set_option maxRecDepth 100000 in
theorem vc_X5_cutFirst_0 {kd : Nat → Nat} {K : zK} {X : zX} (hX : ∀ (n pc : Nat) (ls : zLS) (st : List zV) (M : zM), zrun (tb_X5_cutFirst kd K) [] n X pc ls st M → X pc ls st M) {t : Nat} {M : zM} (hk0 : kd t = 7) (h : ∀ M1 : zM, (M1 = zmw M t 0 (upd (M.1 t 0) 2 (0 : Int32))) → ∃ b2 : List Int, (RpB (M1.1 t) b2) ∧ ∃ p2 : Nat, ((M1.1 t 0 2).toInt = (p2 : Int)) ∧ (p2 ≤ b2.length) ∧ ∀ S2 : zB, (RpK S2 b2 (tok b2 p2)) → ∀ M2 : zM, (M2 = zbs M1 t S2) → K none M2) : X 0 [some (zR t 0)] [] M := hX 7 0 _ [] M (show (kd t = 7) ∧ ∀ M1 : zM, (M1 = zmw M t 0 (upd (M.1 t 0) 2 (0 : Int32))) → (kd t = 7) ∧ ∃ b2 : List Int, (RpB (M1.1 t) b2) ∧ ∃ p2 : Nat, ((M1.1 t 0 2).toInt = (p2 : Int)) ∧ (p2 ≤ b2.length) ∧ ∀ S2 : zB, (RpK S2 b2 (tok b2 p2)) → ∀ M2 : zM, (M2 = zbs M1 t S2) → K none M2 from ⟨hk0, fun M1 => have h := h M1; fun q => have h := h q; ⟨hk0, h.elim (fun b2 h => ⟨b2, ⟨h.1, have h := h.2; h.elim (fun p2 h => ⟨p2, ⟨h.1, have h := h.2; ⟨h.1, have h := h.2; fun S2 => have h := h S2; fun q => have h := h q; fun M2 => have h := h M2; fun q => have h := h q; h⟩⟩⟩)⟩⟩)⟩⟩)
def sp_X5_spells : zSpec := fun kd as M K => match as with
  | [.inr (.inr (.inl (t, 0))), .inr (.inr (.inl (w, 0)))] => (kd t = 7) ∧ ∃ b : List Int, ∃ T : Tk, (RpK (M.1 t) b T) ∧ (20 ≤ w ∧ w < 24) ∧ ∀ v : Int32, (v = zp (isWd b T w = true)) → K (some (.inl v)) M
  | _ => False
theorem rv_X5_spells : zrv sp_X5_spells 7 1 := by
  intro kd as M K h
  unfold sp_X5_spells at h
  split at h
  · exact ⟨_, _, rfl, h.1⟩
  · exact h.elim
theorem dd_X5_spells_0 : decode cX5_spells 0 = .ok (.aload_n 0, 1) := by decide +kernel
theorem dd_X5_spells_1 : decode cX5_spells 1 = .ok (.getfield 25, 3) := by decide +kernel
theorem dd_X5_spells_4 : decode cX5_spells 4 = .ok (.iconst 4, 1) := by decide +kernel
theorem dd_X5_spells_5 : decode cX5_spells 5 = .ok (.if_icmp .ne 36, 3) := by decide +kernel
theorem dd_X5_spells_8 : decode cX5_spells 8 = .ok (.aload_n 0, 1) := by decide +kernel
theorem dd_X5_spells_9 : decode cX5_spells 9 = .ok (.getfield 19, 3) := by decide +kernel
theorem dd_X5_spells_12 : decode cX5_spells 12 = .ok (.aload_n 0, 1) := by decide +kernel
theorem dd_X5_spells_13 : decode cX5_spells 13 = .ok (.getfield 22, 3) := by decide +kernel
theorem dd_X5_spells_16 : decode cX5_spells 16 = .ok (.isub, 1) := by decide +kernel
theorem dd_X5_spells_17 : decode cX5_spells 17 = .ok (.aload_n 1, 1) := by decide +kernel
theorem dd_X5_spells_18 : decode cX5_spells 18 = .ok (.invokevirtual 51, 3) := by decide +kernel
theorem dd_X5_spells_21 : decode cX5_spells 21 = .ok (.if_icmp .ne 20, 3) := by decide +kernel
theorem dd_X5_spells_24 : decode cX5_spells 24 = .ok (.aload_n 0, 1) := by decide +kernel
theorem dd_X5_spells_25 : decode cX5_spells 25 = .ok (.getfield 22, 3) := by decide +kernel
theorem dd_X5_spells_28 : decode cX5_spells 28 = .ok (.ifCond .lt 13, 3) := by decide +kernel
theorem dd_X5_spells_31 : decode cX5_spells 31 = .ok (.aload_n 0, 1) := by decide +kernel
theorem dd_X5_spells_32 : decode cX5_spells 32 = .ok (.getfield 19, 3) := by decide +kernel
theorem dd_X5_spells_35 : decode cX5_spells 35 = .ok (.sipush 150, 3) := by decide +kernel
theorem dd_X5_spells_38 : decode cX5_spells 38 = .ok (.if_icmp .le 5, 3) := by decide +kernel
theorem dd_X5_spells_41 : decode cX5_spells 41 = .ok (.iconst 0, 1) := by decide +kernel
theorem dd_X5_spells_42 : decode cX5_spells 42 = .ok (.ireturn, 1) := by decide +kernel
theorem dd_X5_spells_43 : decode cX5_spells 43 = .ok (.iconst 0, 1) := by decide +kernel
theorem dd_X5_spells_44 : decode cX5_spells 44 = .ok (.istore_n 2, 1) := by decide +kernel
theorem dd_X5_spells_45 : decode cX5_spells 45 = .ok (.iload_n 2, 1) := by decide +kernel
theorem dd_X5_spells_46 : decode cX5_spells 46 = .ok (.aload_n 1, 1) := by decide +kernel
theorem dd_X5_spells_47 : decode cX5_spells 47 = .ok (.invokevirtual 51, 3) := by decide +kernel
theorem dd_X5_spells_50 : decode cX5_spells 50 = .ok (.if_icmp .ge 30, 3) := by decide +kernel
theorem dd_X5_spells_53 : decode cX5_spells 53 = .ok (.aload_n 0, 1) := by decide +kernel
theorem dd_X5_spells_54 : decode cX5_spells 54 = .ok (.getfield 9, 3) := by decide +kernel
theorem dd_X5_spells_57 : decode cX5_spells 57 = .ok (.aload_n 0, 1) := by decide +kernel
theorem dd_X5_spells_58 : decode cX5_spells 58 = .ok (.getfield 22, 3) := by decide +kernel
theorem dd_X5_spells_61 : decode cX5_spells 61 = .ok (.iload_n 2, 1) := by decide +kernel
theorem dd_X5_spells_62 : decode cX5_spells 62 = .ok (.iadd, 1) := by decide +kernel
theorem dd_X5_spells_63 : decode cX5_spells 63 = .ok (.baload, 1) := by decide +kernel
theorem dd_X5_spells_64 : decode cX5_spells 64 = .ok (.aload_n 1, 1) := by decide +kernel
theorem dd_X5_spells_65 : decode cX5_spells 65 = .ok (.iload_n 2, 1) := by decide +kernel
theorem dd_X5_spells_66 : decode cX5_spells 66 = .ok (.invokevirtual 56, 3) := by decide +kernel
theorem dd_X5_spells_69 : decode cX5_spells 69 = .ok (.if_icmp .eq 5, 3) := by decide +kernel
theorem dd_X5_spells_72 : decode cX5_spells 72 = .ok (.iconst 0, 1) := by decide +kernel
theorem dd_X5_spells_73 : decode cX5_spells 73 = .ok (.ireturn, 1) := by decide +kernel
theorem dd_X5_spells_74 : decode cX5_spells 74 = .ok (.iinc 2 1, 3) := by decide +kernel
theorem dd_X5_spells_77 : decode cX5_spells 77 = .ok (.goto (-32), 3) := by decide +kernel
theorem dd_X5_spells_80 : decode cX5_spells 80 = .ok (.iconst 1, 1) := by decide +kernel
theorem dd_X5_spells_81 : decode cX5_spells 81 = .ok (.ireturn, 1) := by decide +kernel
def tb_X5_spells (kd : Nat → Nat) (K : zK) : zTab := [(0, zt_aload 0 1), (1, zt_getI kd 7 4 4), (4, zt_const (zI 4) 5), (5, zt_icmp (fun x y => ¬ x = y) (fun x y => x = y) 41 8), (8, zt_aload 0 9), (9, zt_getI kd 7 2 12), (12, zt_aload 0 13), (13, zt_getI kd 7 3 16), (16, zt_bin (fun x y => x - y) 17), (17, zt_aload 1 18), (18, zt_call kd sp_J0_length_8abf5 1 21), (21, zt_icmp (fun x y => ¬ x = y) (fun x y => x = y) 41 24), (24, zt_aload 0 25), (25, zt_getI kd 7 3 28), (28, zt_if (fun x => x < 0) (fun x => ¬ x < 0) 41 31), (31, zt_aload 0 32), (32, zt_getI kd 7 2 35), (35, zt_const (zI 150) 38), (38, zt_icmp (fun x y => x ≤ y) (fun x y => ¬ x ≤ y) 43 41), (41, zt_const (zI 0) 42), (42, zt_zret K), (43, zt_const (zI 0) 44), (44, zt_istore 2 45), (45, zt_iload 2 46), (46, zt_aload 1 47), (47, zt_call kd sp_J0_length_8abf5 1 50), (50, zt_icmp (fun x y => y ≤ x) (fun x y => ¬ y ≤ x) 80 53), (53, zt_aload 0 54), (54, zt_getR kd 7 0 1 57), (57, zt_aload 0 58), (58, zt_getI kd 7 3 61), (61, zt_iload 2 62), (62, zt_bin (fun x y => x + y) 63), (63, zt_ald kd 1 64), (64, zt_aload 1 65), (65, zt_iload 2 66), (66, zt_call kd sp_J0_charAt_5068e 2 69), (69, zt_icmp (fun x y => x = y) (fun x y => ¬ x = y) 74 72), (72, zt_const (zI 0) 73), (73, zt_zret K), (74, zt_iinc 2 1 77), (77, zt_goto 45), (80, zt_const (zI 1) 81), (81, zt_zret K)]
set_option maxRecDepth 20000 in
theorem tk_X5_spells (d : Nat) (h_J0_length_8abf5 : zMS 2 yJ0_length_8abf5 cJ0_length_8abf5 1 (some .int) sp_J0_length_8abf5) (h_J0_charAt_5068e : zMS 4 yJ0_charAt_5068e cJ0_charAt_5068e 2 (some .char) sp_J0_charAt_5068e) : zTrue RX5 cX5_spells 3 (some .boolean) (d + 5) (fun kd K => tb_X5_spells kd K) := by
  intro p l e R s m args below meth c D cy A ad bl Qm K C0 hr hlocks hQ
  obtain ⟨hx, hb, hml, hown, hts, hK, hD, hA0, hN, hE, ⟨hR1, hR2⟩, hc1, hc2⟩ := id C0
  unfold tb_X5_spells
  refine List.forall_mem_cons.mpr ⟨ok_aload_n hx hb rfl dd_X5_spells_0, ?_⟩
  refine List.forall_mem_cons.mpr ⟨ok_getI (j := 4) hx hb hts zi_X5 hown hK zc_X5 (by decide) rfl (fun t fl h => by cases h; rfl) (hts _ wd_253) dd_X5_spells_1, ?_⟩
  refine List.forall_mem_cons.mpr ⟨ok_iconst hx hb dd_X5_spells_4 (by decide), ?_⟩
  refine List.forall_mem_cons.mpr ⟨ok_icmp_ne hx hb dd_X5_spells_5 (by decide), ?_⟩
  refine List.forall_mem_cons.mpr ⟨ok_aload_n hx hb rfl dd_X5_spells_8, ?_⟩
  refine List.forall_mem_cons.mpr ⟨ok_getI (j := 2) hx hb hts zi_X5 hown hK zc_X5 (by decide) rfl (fun t fl h => by cases h; rfl) (hts _ wd_250) dd_X5_spells_9, ?_⟩
  refine List.forall_mem_cons.mpr ⟨ok_aload_n hx hb rfl dd_X5_spells_12, ?_⟩
  refine List.forall_mem_cons.mpr ⟨ok_getI (j := 3) hx hb hts zi_X5 hown hK zc_X5 (by decide) rfl (fun t fl h => by cases h; rfl) (hts _ wd_251) dd_X5_spells_13, ?_⟩
  refine List.forall_mem_cons.mpr ⟨ok_isub hx hb dd_X5_spells_16, ?_⟩
  refine List.forall_mem_cons.mpr ⟨ok_aload_n hx hb rfl dd_X5_spells_17, ?_⟩
  refine List.forall_mem_cons.mpr ⟨ok_callVS (n := 0) rv_J0_length_8abf5 C0 (h_J0_length_8abf5 (d + 4) (by omega)) (by decide) wd_449 wd_446 wd_447 wd_448 wd_111 ⟨rfl, by decide +kernel, by decide +kernel, by decide +kernel⟩ dd_X5_spells_18, ?_⟩
  refine List.forall_mem_cons.mpr ⟨ok_icmp_ne hx hb dd_X5_spells_21 (by decide), ?_⟩
  refine List.forall_mem_cons.mpr ⟨ok_aload_n hx hb rfl dd_X5_spells_24, ?_⟩
  refine List.forall_mem_cons.mpr ⟨ok_getI (j := 3) hx hb hts zi_X5 hown hK zc_X5 (by decide) rfl (fun t fl h => by cases h; rfl) (hts _ wd_251) dd_X5_spells_25, ?_⟩
  refine List.forall_mem_cons.mpr ⟨ok_if_lt hx hb dd_X5_spells_28 (by decide), ?_⟩
  refine List.forall_mem_cons.mpr ⟨ok_aload_n hx hb rfl dd_X5_spells_31, ?_⟩
  refine List.forall_mem_cons.mpr ⟨ok_getI (j := 2) hx hb hts zi_X5 hown hK zc_X5 (by decide) rfl (fun t fl h => by cases h; rfl) (hts _ wd_250) dd_X5_spells_32, ?_⟩
  refine List.forall_mem_cons.mpr ⟨ok_sipush hx hb dd_X5_spells_35 (by decide), ?_⟩
  refine List.forall_mem_cons.mpr ⟨ok_icmp_le hx hb dd_X5_spells_38 (by decide), ?_⟩
  refine List.forall_mem_cons.mpr ⟨ok_iconst hx hb dd_X5_spells_41 (by decide), ?_⟩
  refine List.forall_mem_cons.mpr ⟨ok_zret hx hb hr hlocks hQ dd_X5_spells_42, ?_⟩
  refine List.forall_mem_cons.mpr ⟨ok_iconst hx hb dd_X5_spells_43 (by decide), ?_⟩
  refine List.forall_mem_cons.mpr ⟨ok_istore_n hx hb rfl dd_X5_spells_44, ?_⟩
  refine List.forall_mem_cons.mpr ⟨ok_iload_n hx hb rfl dd_X5_spells_45, ?_⟩
  refine List.forall_mem_cons.mpr ⟨ok_aload_n hx hb rfl dd_X5_spells_46, ?_⟩
  refine List.forall_mem_cons.mpr ⟨ok_callVS (n := 0) rv_J0_length_8abf5 C0 (h_J0_length_8abf5 (d + 4) (by omega)) (by decide) wd_449 wd_446 wd_447 wd_448 wd_111 ⟨rfl, by decide +kernel, by decide +kernel, by decide +kernel⟩ dd_X5_spells_47, ?_⟩
  refine List.forall_mem_cons.mpr ⟨ok_icmp_ge hx hb dd_X5_spells_50 (by decide), ?_⟩
  refine List.forall_mem_cons.mpr ⟨ok_aload_n hx hb rfl dd_X5_spells_53, ?_⟩
  refine List.forall_mem_cons.mpr ⟨ok_getR (j := 0) hx hb hts zi_X5 hown hK zc_X5 (by decide) rfl (fun t fl h => by cases h; rfl) (hts _ wd_247) dd_X5_spells_54, ?_⟩
  refine List.forall_mem_cons.mpr ⟨ok_aload_n hx hb rfl dd_X5_spells_57, ?_⟩
  refine List.forall_mem_cons.mpr ⟨ok_getI (j := 3) hx hb hts zi_X5 hown hK zc_X5 (by decide) rfl (fun t fl h => by cases h; rfl) (hts _ wd_251) dd_X5_spells_58, ?_⟩
  refine List.forall_mem_cons.mpr ⟨ok_iload_n hx hb rfl dd_X5_spells_61, ?_⟩
  refine List.forall_mem_cons.mpr ⟨ok_iadd hx hb dd_X5_spells_62, ?_⟩
  refine List.forall_mem_cons.mpr ⟨ok_ald (ty := 1) rfl hx hb hK (Or.inr (Or.inl ⟨rfl, rfl, dd_X5_spells_63⟩)), ?_⟩
  refine List.forall_mem_cons.mpr ⟨ok_aload_n hx hb rfl dd_X5_spells_64, ?_⟩
  refine List.forall_mem_cons.mpr ⟨ok_iload_n hx hb rfl dd_X5_spells_65, ?_⟩
  refine List.forall_mem_cons.mpr ⟨ok_callVS (n := 1) rv_J0_charAt_5068e C0 (h_J0_charAt_5068e (d + 4) (by omega)) (by decide) wd_459 wd_456 wd_457 wd_458 wd_111 ⟨rfl, by decide +kernel, by decide +kernel, by decide +kernel⟩ dd_X5_spells_66, ?_⟩
  refine List.forall_mem_cons.mpr ⟨ok_icmp_eq hx hb dd_X5_spells_69 (by decide), ?_⟩
  refine List.forall_mem_cons.mpr ⟨ok_iconst hx hb dd_X5_spells_72 (by decide), ?_⟩
  refine List.forall_mem_cons.mpr ⟨ok_zret hx hb hr hlocks hQ dd_X5_spells_73, ?_⟩
  refine List.forall_mem_cons.mpr ⟨ok_iinc hx hb dd_X5_spells_74 (by decide), ?_⟩
  refine List.forall_mem_cons.mpr ⟨ok_goto hx hb dd_X5_spells_77 (by decide), ?_⟩
  refine List.forall_mem_cons.mpr ⟨ok_iconst hx hb dd_X5_spells_80 (by decide), ?_⟩
  refine List.forall_mem_cons.mpr ⟨ok_zret hx hb hr hlocks hQ dd_X5_spells_81, ?_⟩
  exact fun _ h => absurd h List.not_mem_nil
set_option maxRecDepth 100000 in
theorem vc_X5_spells_0 {kd : Nat → Nat} {K : zK} {X : zX} (hX : ∀ (n pc : Nat) (ls : zLS) (st : List zV) (M : zM), zrun (tb_X5_spells kd K) [(45, [])] n X pc ls st M → X pc ls st M) {t : Nat} {w : Nat} {M : zM} (hk0 : kd t = 7) (h : ((¬ (M.1 t 0 4) = (4 : Int32)) → K (some (zI ((0 : Int32)))) M) ∧ (((M.1 t 0 4) = (4 : Int32)) → (20 ≤ w ∧ w < 24) ∧ ∀ v1 : Int32, (v1 = nI (zslen.getD (w - 20) 0)) → ((¬ ((M.1 t 0 2) - (M.1 t 0 3)) = v1) → K (some (zI ((0 : Int32)))) M) ∧ ((((M.1 t 0 2) - (M.1 t 0 3)) = v1) → (((M.1 t 0 3) < 0) → K (some (zI ((0 : Int32)))) M) ∧ ((¬ (M.1 t 0 3) < 0) → (((M.1 t 0 2) ≤ (150 : Int32)) → X 45 [some (zR t 0), some (zR w 0), some (zI ((0 : Int32)))] [] M) ∧ ((¬ (M.1 t 0 2) ≤ (150 : Int32)) → K (some (zI ((0 : Int32)))) M))))) : X 0 [some (zR t 0), some (zR w 0), none] [] M := hX 23 0 _ [] M (show (kd t = 7) ∧ ((¬ (M.1 t 0 4) = (4 : Int32)) → ((0 : Int32) = 0 ∨ (0 : Int32) = 1) ∧ K (some (zI ((0 : Int32)))) M) ∧ (((M.1 t 0 4) = (4 : Int32)) → (kd t = 7) ∧ (kd t = 7) ∧ (20 ≤ w ∧ w < 24) ∧ ∀ v1 : Int32, (v1 = nI (zslen.getD (w - 20) 0)) → ((¬ ((M.1 t 0 2) - (M.1 t 0 3)) = v1) → ((0 : Int32) = 0 ∨ (0 : Int32) = 1) ∧ K (some (zI ((0 : Int32)))) M) ∧ ((((M.1 t 0 2) - (M.1 t 0 3)) = v1) → (kd t = 7) ∧ (((M.1 t 0 3) < 0) → ((0 : Int32) = 0 ∨ (0 : Int32) = 1) ∧ K (some (zI ((0 : Int32)))) M) ∧ ((¬ (M.1 t 0 3) < 0) → (kd t = 7) ∧ (((M.1 t 0 2) ≤ (150 : Int32)) → X 45 [some (zR t 0), some (zR w 0), some (zI ((0 : Int32)))] [] M) ∧ ((¬ (M.1 t 0 2) ≤ (150 : Int32)) → ((0 : Int32) = 0 ∨ (0 : Int32) = 1) ∧ K (some (zI ((0 : Int32)))) M)))) from ⟨hk0, ⟨fun q => have h := h.1 q; ⟨(Or.inl rfl), h⟩, fun q => have h := h.2 q; ⟨hk0, ⟨hk0, ⟨h.1, have h := h.2; fun v1 => have h := h v1; fun q => have h := h q; ⟨fun q => have h := h.1 q; ⟨(Or.inl rfl), h⟩, fun q => have h := h.2 q; ⟨hk0, ⟨fun q => have h := h.1 q; ⟨(Or.inl rfl), h⟩, fun q => have h := h.2 q; ⟨hk0, ⟨fun q => have h := h.1 q; h, fun q => have h := h.2 q; ⟨(Or.inl rfl), h⟩⟩⟩⟩⟩⟩⟩⟩⟩⟩⟩)
set_option maxRecDepth 100000 in
theorem vc_X5_spells_45 {kd : Nat → Nat} {K : zK} {X : zX} (hX : ∀ (n pc : Nat) (ls : zLS) (st : List zV) (M : zM), zrun (tb_X5_spells kd K) [(45, [])] n X pc ls st M → X pc ls st M) {t : Nat} {w : Nat} {k : Int32} {M : zM} (hk0 : kd t = 7) (h : (20 ≤ w ∧ w < 24) ∧ ∀ v1 : Int32, (v1 = nI (zslen.getD (w - 20) 0)) → ((v1 ≤ k) → K (some (zI ((1 : Int32)))) M) ∧ ((¬ v1 ≤ k) → (zin (kd t) 1 1 ((M.1 t 0 3) + k)) ∧ (20 ≤ w ∧ w < 24) ∧ (0 ≤ k.toInt ∧ k.toInt < (zslen.getD (w - 20) 0 : Nat)) ∧ ∀ v2 : Int32, (v2 = (zsbyt.getD (w - 20) []).getD k.toInt.toNat 0) → (((M.1 t 1 ((M.1 t 0 3) + k).toNatClampNeg) = v2) → X 45 [some (zR t 0), some (zR w 0), some (zI (k + 1))] [] M) ∧ ((¬ (M.1 t 1 ((M.1 t 0 3) + k).toNatClampNeg) = v2) → K (some (zI ((0 : Int32)))) M))) : X 45 [some (zR t 0), some (zR w 0), some (zI (k))] [] M := hX 19 45 _ [] M (show (20 ≤ w ∧ w < 24) ∧ ∀ v1 : Int32, (v1 = nI (zslen.getD (w - 20) 0)) → ((v1 ≤ k) → ((1 : Int32) = 0 ∨ (1 : Int32) = 1) ∧ K (some (zI ((1 : Int32)))) M) ∧ ((¬ v1 ≤ k) → (kd t = 7) ∧ (kd t = 7) ∧ (zin (kd t) 1 1 ((M.1 t 0 3) + k)) ∧ (20 ≤ w ∧ w < 24) ∧ (0 ≤ k.toInt ∧ k.toInt < (zslen.getD (w - 20) 0 : Nat)) ∧ ∀ v2 : Int32, (v2 = (zsbyt.getD (w - 20) []).getD k.toInt.toNat 0) → (((M.1 t 1 ((M.1 t 0 3) + k).toNatClampNeg) = v2) → X 45 [some (zR t 0), some (zR w 0), some (zI (k + 1))] [] M) ∧ ((¬ (M.1 t 1 ((M.1 t 0 3) + k).toNatClampNeg) = v2) → ((0 : Int32) = 0 ∨ (0 : Int32) = 1) ∧ K (some (zI ((0 : Int32)))) M)) from ⟨h.1, have h := h.2; fun v1 => have h := h v1; fun q => have h := h q; ⟨fun q => have h := h.1 q; ⟨(Or.inr rfl), h⟩, fun q => have h := h.2 q; ⟨hk0, ⟨hk0, ⟨h.1, have h := h.2; ⟨h.1, have h := h.2; ⟨h.1, have h := h.2; fun v2 => have h := h v2; fun q => have h := h q; ⟨fun q => have h := h.1 q; h, fun q => have h := h.2 q; ⟨(Or.inl rfl), h⟩⟩⟩⟩⟩⟩⟩⟩⟩)
