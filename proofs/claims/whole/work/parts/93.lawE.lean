theorem dd_L_law_907 : decode cL_law 907 = .ok (.aload_n 1, 1) := by decide +kernel
theorem dd_L_law_908 : decode cL_law 908 = .ok (.aload_n 0, 1) := by decide +kernel
theorem dd_L_law_909 : decode cL_law 909 = .ok (.iload_n 3, 1) := by decide +kernel
theorem dd_L_law_910 : decode cL_law 910 = .ok (.iconst 1, 1) := by decide +kernel
theorem dd_L_law_911 : decode cL_law 911 = .ok (.iadd, 1) := by decide +kernel
theorem dd_L_law_912 : decode cL_law 912 = .ok (.iaload, 1) := by decide +kernel
theorem dd_L_law_913 : decode cL_law 913 = .ok (.aload_n 0, 1) := by decide +kernel
theorem dd_L_law_914 : decode cL_law 914 = .ok (.iload_n 3, 1) := by decide +kernel
theorem dd_L_law_915 : decode cL_law 915 = .ok (.iconst 2, 1) := by decide +kernel
theorem dd_L_law_916 : decode cL_law 916 = .ok (.iadd, 1) := by decide +kernel
theorem dd_L_law_917 : decode cL_law 917 = .ok (.iaload, 1) := by decide +kernel
theorem dd_L_law_918 : decode cL_law 918 = .ok (.invokevirtual 110, 3) := by decide +kernel
theorem dd_L_law_921 : decode cL_law 921 = .ok (.aload_n 2, 1) := by decide +kernel
theorem dd_L_law_922 : decode cL_law 922 = .ok (.aload_n 0, 1) := by decide +kernel
theorem dd_L_law_923 : decode cL_law 923 = .ok (.iload_n 3, 1) := by decide +kernel
theorem dd_L_law_924 : decode cL_law 924 = .ok (.iconst 1, 1) := by decide +kernel
theorem dd_L_law_925 : decode cL_law 925 = .ok (.iadd, 1) := by decide +kernel
theorem dd_L_law_926 : decode cL_law 926 = .ok (.iaload, 1) := by decide +kernel
theorem dd_L_law_927 : decode cL_law 927 = .ok (.aload_n 0, 1) := by decide +kernel
theorem dd_L_law_928 : decode cL_law 928 = .ok (.iload_n 3, 1) := by decide +kernel
theorem dd_L_law_929 : decode cL_law 929 = .ok (.iconst 2, 1) := by decide +kernel
theorem dd_L_law_930 : decode cL_law 930 = .ok (.iadd, 1) := by decide +kernel
theorem dd_L_law_931 : decode cL_law 931 = .ok (.iaload, 1) := by decide +kernel
theorem dd_L_law_932 : decode cL_law 932 = .ok (.invokevirtual 113, 3) := by decide +kernel
theorem dd_L_law_935 : decode cL_law 935 = .ok (.if_icmp .eq 135, 3) := by decide +kernel
theorem dd_L_law_938 : decode cL_law 938 = .ok (.iconst 0, 1) := by decide +kernel
theorem dd_L_law_939 : decode cL_law 939 = .ok (.ireturn, 1) := by decide +kernel
def tb_L23 (L : Nat) (xs : Nat → Int32) (kd : Nat → Nat) : zTab := [(907, zt_aload 1 908), (908, zt_aload 0 909), (909, zt_iload 3 910), (910, zt_const (zI 1) 911), (911, zt_bin (fun x y => x + y) 912), (912, zt_sld L xs 913), (913, zt_aload 0 914), (914, zt_iload 3 915), (915, zt_const (zI 2) 916), (916, zt_bin (fun x y => x + y) 917), (917, zt_sld L xs 918), (918, zt_call kd sp_X7_centuries 3 921), (921, zt_aload 2 922), (922, zt_aload 0 923), (923, zt_iload 3 924), (924, zt_const (zI 1) 925), (925, zt_bin (fun x y => x + y) 926), (926, zt_sld L xs 927), (927, zt_aload 0 928), (928, zt_iload 3 929), (929, zt_const (zI 2) 930), (930, zt_bin (fun x y => x + y) 931), (931, zt_sld L xs 932), (932, zt_call kd sp_X8_centuries 3 935), (935, zt_icmp (fun x y => x = y) (fun x y => ¬ x = y) 1070 938), (938, zt_const (zI 0) 939), (939, (fun _ _ _ _ => False))]
def cu_L23 : zCut := [(1070, [])]
set_option maxRecDepth 20000 in
theorem tk_L23 {p : Program} {l : Launch} {e : Env} {R : Room} {s : State} {m : MethodId} {args : Array Value} {below : List Frame} {meth : Method} {c : Code} {D : va_G} {cy : Nat → ClassId} {A : Nat → Prop} {ad : Nat × Nat → Nat} {bl : zBl} {ce so : Nat} {Qm : State → Prop} {b L : Nat} {xs : Nat → Int32} (C0 : zCtx p l e R s m args below meth c D cy A ad bl 4 ce so Qm RL cL_law (60 + 1)) (hX : va_X b L xs s s.heap) (hbl : b < s.heap.size) (hbA : ¬ A b) (hb31 : ∀ o, ad (31, o) = b) : ∀ q ∈ tb_L23 L xs (zkd bl), zOk p l e R s m args below meth c D cy A ad bl 4 ce so Qm q.1 q.2 := by
  obtain ⟨hx, hb, hml, hown, hts, hK, hD, hA0, hN, hE, ⟨hR1, hR2⟩, hc1, hc2⟩ := id C0
  unfold tb_L23
  refine List.forall_mem_cons.mpr ⟨ok_aload_n hx hb rfl dd_L_law_907, ?_⟩
  refine List.forall_mem_cons.mpr ⟨ok_aload_n hx hb rfl dd_L_law_908, ?_⟩
  refine List.forall_mem_cons.mpr ⟨ok_iload_n hx hb rfl dd_L_law_909, ?_⟩
  refine List.forall_mem_cons.mpr ⟨ok_iconst hx hb dd_L_law_910 (by decide), ?_⟩
  refine List.forall_mem_cons.mpr ⟨ok_iadd hx hb dd_L_law_911, ?_⟩
  refine List.forall_mem_cons.mpr ⟨ok_sld hx hb hX hbl hbA hb31 dd_L_law_912, ?_⟩
  refine List.forall_mem_cons.mpr ⟨ok_aload_n hx hb rfl dd_L_law_913, ?_⟩
  refine List.forall_mem_cons.mpr ⟨ok_iload_n hx hb rfl dd_L_law_914, ?_⟩
  refine List.forall_mem_cons.mpr ⟨ok_iconst hx hb dd_L_law_915 (by decide), ?_⟩
  refine List.forall_mem_cons.mpr ⟨ok_iadd hx hb dd_L_law_916, ?_⟩
  refine List.forall_mem_cons.mpr ⟨ok_sld hx hb hX hbl hbA hb31 dd_L_law_917, ?_⟩
  refine List.forall_mem_cons.mpr ⟨ok_callV (n := 2) zc_X7 rv_X7_centuries C0 (ms_X7_centuries 60 (by decide)) (by decide) wd_753 wd_750 wd_751 wd_752 wd_100 ⟨rfl, by decide +kernel, by decide +kernel, by decide +kernel⟩ dd_L_law_918, ?_⟩
  refine List.forall_mem_cons.mpr ⟨ok_aload_n hx hb rfl dd_L_law_921, ?_⟩
  refine List.forall_mem_cons.mpr ⟨ok_aload_n hx hb rfl dd_L_law_922, ?_⟩
  refine List.forall_mem_cons.mpr ⟨ok_iload_n hx hb rfl dd_L_law_923, ?_⟩
  refine List.forall_mem_cons.mpr ⟨ok_iconst hx hb dd_L_law_924 (by decide), ?_⟩
  refine List.forall_mem_cons.mpr ⟨ok_iadd hx hb dd_L_law_925, ?_⟩
  refine List.forall_mem_cons.mpr ⟨ok_sld hx hb hX hbl hbA hb31 dd_L_law_926, ?_⟩
  refine List.forall_mem_cons.mpr ⟨ok_aload_n hx hb rfl dd_L_law_927, ?_⟩
  refine List.forall_mem_cons.mpr ⟨ok_iload_n hx hb rfl dd_L_law_928, ?_⟩
  refine List.forall_mem_cons.mpr ⟨ok_iconst hx hb dd_L_law_929 (by decide), ?_⟩
  refine List.forall_mem_cons.mpr ⟨ok_iadd hx hb dd_L_law_930, ?_⟩
  refine List.forall_mem_cons.mpr ⟨ok_sld hx hb hX hbl hbA hb31 dd_L_law_931, ?_⟩
  refine List.forall_mem_cons.mpr ⟨ok_callV (n := 2) zc_X8 rv_X8_centuries C0 (ms_X8_centuries 60 (by decide)) (by decide) wd_1141 wd_1138 wd_1139 wd_1140 wd_107 ⟨rfl, by decide +kernel, by decide +kernel, by decide +kernel⟩ dd_L_law_932, ?_⟩
  refine List.forall_mem_cons.mpr ⟨ok_icmp_eq hx hb dd_L_law_935 (by decide), ?_⟩
  refine List.forall_mem_cons.mpr ⟨ok_iconst hx hb dd_L_law_938 (by decide), ?_⟩
  refine List.forall_mem_cons.mpr ⟨ok_dead, ?_⟩
  exact fun _ h => absurd h List.not_mem_nil
set_option maxRecDepth 100000 in
theorem vc_L23_907 {L : Nat} {xs : Nat → Int32} {kd : Nat → Nat} {X : zX} (hX : ∀ (n pc : Nat) (ls : zLS) (st : List zV) (M : zM), zrun (tb_L23 L xs kd) cu_L23 n X pc ls st M → X pc ls st M) {i : Int32} {M : zM} (hk0 : kd 9 = 8) (hk1 : kd 0 = 1) (h : (vp_in (i + (1 : Int32)) L) ∧ (vp_in (i + (2 : Int32)) L) ∧ (KdX kd) ∧ ∃ s1 : St, (RpX kd M s1) ∧ ∀ v1 : Int32, (v1.toInt = (ev_centuries s1 (xs (i + (1 : Int32)).toNatClampNeg).toInt (xs (i + (2 : Int32)).toNatClampNeg).toInt).1) → ∀ M1 : zM, (RpX kd M1 (ev_centuries s1 (xs (i + (1 : Int32)).toNatClampNeg).toInt (xs (i + (2 : Int32)).toNatClampNeg).toInt).2) → (fr9 M M1) → (vp_in (i + (1 : Int32)) L) ∧ (vp_in (i + (2 : Int32)) L) ∧ ∃ s2 : St, (RpM M1 s2) ∧ ∀ v2 : Int32, (v2.toInt = (ev_centuries s2 (xs (i + (1 : Int32)).toNatClampNeg).toInt (xs (i + (2 : Int32)).toNatClampNeg).toInt).1) → ∀ M2 : zM, (RpM M2 (ev_centuries s2 (xs (i + (1 : Int32)).toNatClampNeg).toInt (xs (i + (2 : Int32)).toNatClampNeg).toInt).2) → (fr0 M1 M2) → ((v1 = v2) → X 1070 [some (zR 31 0), some (zR 0 0), some (zR 9 0), some (zI (i))] [] M2) ∧ ((¬ v1 = v2) → False)) : X 907 [some (zR 31 0), some (zR 0 0), some (zR 9 0), some (zI (i))] [] M := hX 28 907 _ [] M (show (31 = 31) ∧ (vp_in (i + (1 : Int32)) L) ∧ (31 = 31) ∧ (vp_in (i + (2 : Int32)) L) ∧ (kd 0 = 1) ∧ (KdX kd) ∧ ∃ s1 : St, (RpX kd M s1) ∧ ∀ v1 : Int32, (v1.toInt = (ev_centuries s1 (xs (i + (1 : Int32)).toNatClampNeg).toInt (xs (i + (2 : Int32)).toNatClampNeg).toInt).1) → ∀ M1 : zM, (RpX kd M1 (ev_centuries s1 (xs (i + (1 : Int32)).toNatClampNeg).toInt (xs (i + (2 : Int32)).toNatClampNeg).toInt).2) → (fr9 M M1) → (31 = 31) ∧ (vp_in (i + (1 : Int32)) L) ∧ (31 = 31) ∧ (vp_in (i + (2 : Int32)) L) ∧ (kd 9 = 8) ∧ ∃ s2 : St, (RpM M1 s2) ∧ ∀ v2 : Int32, (v2.toInt = (ev_centuries s2 (xs (i + (1 : Int32)).toNatClampNeg).toInt (xs (i + (2 : Int32)).toNatClampNeg).toInt).1) → ∀ M2 : zM, (RpM M2 (ev_centuries s2 (xs (i + (1 : Int32)).toNatClampNeg).toInt (xs (i + (2 : Int32)).toNatClampNeg).toInt).2) → (fr0 M1 M2) → ((v1 = v2) → X 1070 [some (zR 31 0), some (zR 0 0), some (zR 9 0), some (zI (i))] [] M2) ∧ ((¬ v1 = v2) → False) from ⟨rfl, ⟨h.1, have h := h.2; ⟨rfl, ⟨h.1, have h := h.2; ⟨hk1, ⟨h.1, have h := h.2; h.elim (fun s1 h => ⟨s1, ⟨h.1, have h := h.2; fun v1 => have h := h v1; fun q => have h := h q; fun M1 => have h := h M1; fun q => have h := h q; fun q => have h := h q; ⟨rfl, ⟨h.1, have h := h.2; ⟨rfl, ⟨h.1, have h := h.2; ⟨hk0, h.elim (fun s2 h => ⟨s2, ⟨h.1, have h := h.2; fun v2 => have h := h v2; fun q => have h := h q; fun M2 => have h := h M2; fun q => have h := h q; fun q => have h := h q; ⟨fun q => have h := h.1 q; h, fun q => have h := h.2 q; h⟩⟩⟩)⟩⟩⟩⟩⟩⟩⟩)⟩⟩⟩⟩⟩⟩)
theorem dd_L_law_940 : decode cL_law 940 = .ok (.aload_n 1, 1) := by decide +kernel
theorem dd_L_law_941 : decode cL_law 941 = .ok (.aload_n 0, 1) := by decide +kernel
theorem dd_L_law_942 : decode cL_law 942 = .ok (.iload_n 3, 1) := by decide +kernel
theorem dd_L_law_943 : decode cL_law 943 = .ok (.iconst 1, 1) := by decide +kernel
theorem dd_L_law_944 : decode cL_law 944 = .ok (.iadd, 1) := by decide +kernel
theorem dd_L_law_945 : decode cL_law 945 = .ok (.iaload, 1) := by decide +kernel
theorem dd_L_law_946 : decode cL_law 946 = .ok (.invokevirtual 114, 3) := by decide +kernel
theorem dd_L_law_949 : decode cL_law 949 = .ok (.aload_n 2, 1) := by decide +kernel
theorem dd_L_law_950 : decode cL_law 950 = .ok (.aload_n 0, 1) := by decide +kernel
theorem dd_L_law_951 : decode cL_law 951 = .ok (.iload_n 3, 1) := by decide +kernel
theorem dd_L_law_952 : decode cL_law 952 = .ok (.iconst 1, 1) := by decide +kernel
theorem dd_L_law_953 : decode cL_law 953 = .ok (.iadd, 1) := by decide +kernel
theorem dd_L_law_954 : decode cL_law 954 = .ok (.iaload, 1) := by decide +kernel
theorem dd_L_law_955 : decode cL_law 955 = .ok (.invokevirtual 118, 3) := by decide +kernel
theorem dd_L_law_958 : decode cL_law 958 = .ok (.lcmp, 1) := by decide +kernel
theorem dd_L_law_959 : decode cL_law 959 = .ok (.ifCond .eq 111, 3) := by decide +kernel
theorem dd_L_law_962 : decode cL_law 962 = .ok (.iconst 0, 1) := by decide +kernel
theorem dd_L_law_963 : decode cL_law 963 = .ok (.ireturn, 1) := by decide +kernel
def tb_L24 (L : Nat) (xs : Nat → Int32) (kd : Nat → Nat) : zTab := [(940, zt_aload 1 941), (941, zt_aload 0 942), (942, zt_iload 3 943), (943, zt_const (zI 1) 944), (944, zt_bin (fun x y => x + y) 945), (945, zt_sld L xs 946), (946, zt_call kd sp_X7_part 2 949), (949, zt_aload 2 950), (950, zt_aload 0 951), (951, zt_iload 3 952), (952, zt_const (zI 1) 953), (953, zt_bin (fun x y => x + y) 954), (954, zt_sld L xs 955), (955, zt_call kd sp_X8_part 2 958), (958, zt_lcmp 959), (959, zt_if (fun x => x = 0) (fun x => ¬ x = 0) 1070 962), (962, zt_const (zI 0) 963), (963, (fun _ _ _ _ => False))]
def cu_L24 : zCut := [(1070, [])]
set_option maxRecDepth 20000 in
theorem tk_L24 {p : Program} {l : Launch} {e : Env} {R : Room} {s : State} {m : MethodId} {args : Array Value} {below : List Frame} {meth : Method} {c : Code} {D : va_G} {cy : Nat → ClassId} {A : Nat → Prop} {ad : Nat × Nat → Nat} {bl : zBl} {ce so : Nat} {Qm : State → Prop} {b L : Nat} {xs : Nat → Int32} (C0 : zCtx p l e R s m args below meth c D cy A ad bl 4 ce so Qm RL cL_law (60 + 1)) (hX : va_X b L xs s s.heap) (hbl : b < s.heap.size) (hbA : ¬ A b) (hb31 : ∀ o, ad (31, o) = b) : ∀ q ∈ tb_L24 L xs (zkd bl), zOk p l e R s m args below meth c D cy A ad bl 4 ce so Qm q.1 q.2 := by
  obtain ⟨hx, hb, hml, hown, hts, hK, hD, hA0, hN, hE, ⟨hR1, hR2⟩, hc1, hc2⟩ := id C0
  unfold tb_L24
  refine List.forall_mem_cons.mpr ⟨ok_aload_n hx hb rfl dd_L_law_940, ?_⟩
  refine List.forall_mem_cons.mpr ⟨ok_aload_n hx hb rfl dd_L_law_941, ?_⟩
  refine List.forall_mem_cons.mpr ⟨ok_iload_n hx hb rfl dd_L_law_942, ?_⟩
  refine List.forall_mem_cons.mpr ⟨ok_iconst hx hb dd_L_law_943 (by decide), ?_⟩
  refine List.forall_mem_cons.mpr ⟨ok_iadd hx hb dd_L_law_944, ?_⟩
  refine List.forall_mem_cons.mpr ⟨ok_sld hx hb hX hbl hbA hb31 dd_L_law_945, ?_⟩
  refine List.forall_mem_cons.mpr ⟨ok_callV (n := 1) zc_X7 rv_X7_part C0 (ms_X7_part 60 (by decide)) (by decide) wd_772 wd_769 wd_770 wd_771 wd_100 ⟨rfl, by decide +kernel, by decide +kernel, by decide +kernel⟩ dd_L_law_946, ?_⟩
  refine List.forall_mem_cons.mpr ⟨ok_aload_n hx hb rfl dd_L_law_949, ?_⟩
  refine List.forall_mem_cons.mpr ⟨ok_aload_n hx hb rfl dd_L_law_950, ?_⟩
  refine List.forall_mem_cons.mpr ⟨ok_iload_n hx hb rfl dd_L_law_951, ?_⟩
  refine List.forall_mem_cons.mpr ⟨ok_iconst hx hb dd_L_law_952 (by decide), ?_⟩
  refine List.forall_mem_cons.mpr ⟨ok_iadd hx hb dd_L_law_953, ?_⟩
  refine List.forall_mem_cons.mpr ⟨ok_sld hx hb hX hbl hbA hb31 dd_L_law_954, ?_⟩
  refine List.forall_mem_cons.mpr ⟨ok_callV (n := 1) zc_X8 rv_X8_part C0 (ms_X8_part 60 (by decide)) (by decide) wd_1214 wd_1211 wd_1212 wd_1213 wd_107 ⟨rfl, by decide +kernel, by decide +kernel, by decide +kernel⟩ dd_L_law_955, ?_⟩
  refine List.forall_mem_cons.mpr ⟨ok_lcmp hx hb dd_L_law_958, ?_⟩
  refine List.forall_mem_cons.mpr ⟨ok_if_eq hx hb dd_L_law_959 (by decide), ?_⟩
  refine List.forall_mem_cons.mpr ⟨ok_iconst hx hb dd_L_law_962 (by decide), ?_⟩
  refine List.forall_mem_cons.mpr ⟨ok_dead, ?_⟩
  exact fun _ h => absurd h List.not_mem_nil
set_option maxRecDepth 100000 in
theorem vc_L24_940 {L : Nat} {xs : Nat → Int32} {kd : Nat → Nat} {X : zX} (hX : ∀ (n pc : Nat) (ls : zLS) (st : List zV) (M : zM), zrun (tb_L24 L xs kd) cu_L24 n X pc ls st M → X pc ls st M) {i : Int32} {M : zM} (hk0 : kd 9 = 8) (hk1 : kd 0 = 1) (h : (vp_in (i + (1 : Int32)) L) ∧ (KdX kd) ∧ ∃ s1 : St, (RpX kd M s1) ∧ ∀ v1 : Int64, (v1.toInt = (ev_part s1 (xs (i + (1 : Int32)).toNatClampNeg).toInt).1) → ∀ M1 : zM, (RpX kd M1 (ev_part s1 (xs (i + (1 : Int32)).toNatClampNeg).toInt).2) → (fr9 M M1) → (vp_in (i + (1 : Int32)) L) ∧ ∃ s2 : St, (RpM M1 s2) ∧ ∀ v2 : Int64, (v2.toInt = (ev_part s2 (xs (i + (1 : Int32)).toNatClampNeg).toInt).1) → ∀ M2 : zM, (RpM M2 (ev_part s2 (xs (i + (1 : Int32)).toNatClampNeg).toInt).2) → (fr0 M1 M2) → (((lg_cmp v1 v2) = 0) → X 1070 [some (zR 31 0), some (zR 0 0), some (zR 9 0), some (zI (i))] [] M2) ∧ ((¬ (lg_cmp v1 v2) = 0) → False)) : X 940 [some (zR 31 0), some (zR 0 0), some (zR 9 0), some (zI (i))] [] M := hX 19 940 _ [] M (show (31 = 31) ∧ (vp_in (i + (1 : Int32)) L) ∧ (kd 0 = 1) ∧ (KdX kd) ∧ ∃ s1 : St, (RpX kd M s1) ∧ ∀ v1 : Int64, (v1.toInt = (ev_part s1 (xs (i + (1 : Int32)).toNatClampNeg).toInt).1) → ∀ M1 : zM, (RpX kd M1 (ev_part s1 (xs (i + (1 : Int32)).toNatClampNeg).toInt).2) → (fr9 M M1) → (31 = 31) ∧ (vp_in (i + (1 : Int32)) L) ∧ (kd 9 = 8) ∧ ∃ s2 : St, (RpM M1 s2) ∧ ∀ v2 : Int64, (v2.toInt = (ev_part s2 (xs (i + (1 : Int32)).toNatClampNeg).toInt).1) → ∀ M2 : zM, (RpM M2 (ev_part s2 (xs (i + (1 : Int32)).toNatClampNeg).toInt).2) → (fr0 M1 M2) → (((lg_cmp v1 v2) = 0) → X 1070 [some (zR 31 0), some (zR 0 0), some (zR 9 0), some (zI (i))] [] M2) ∧ ((¬ (lg_cmp v1 v2) = 0) → False) from ⟨rfl, ⟨h.1, have h := h.2; ⟨hk1, ⟨h.1, have h := h.2; h.elim (fun s1 h => ⟨s1, ⟨h.1, have h := h.2; fun v1 => have h := h v1; fun q => have h := h q; fun M1 => have h := h M1; fun q => have h := h q; fun q => have h := h q; ⟨rfl, ⟨h.1, have h := h.2; ⟨hk0, h.elim (fun s2 h => ⟨s2, ⟨h.1, have h := h.2; fun v2 => have h := h v2; fun q => have h := h q; fun M2 => have h := h M2; fun q => have h := h q; fun q => have h := h q; ⟨fun q => have h := h.1 q; h, fun q => have h := h.2 q; h⟩⟩⟩)⟩⟩⟩⟩⟩)⟩⟩⟩⟩)
theorem dd_L_law_970 : decode cL_law 970 = .ok (.invokevirtual 119, 3) := by decide +kernel
theorem dd_L_law_964 : decode cL_law 964 = .ok (.aload_n 1, 1) := by decide +kernel
theorem dd_L_law_965 : decode cL_law 965 = .ok (.aload_n 0, 1) := by decide +kernel
theorem dd_L_law_966 : decode cL_law 966 = .ok (.iload_n 3, 1) := by decide +kernel
theorem dd_L_law_967 : decode cL_law 967 = .ok (.iconst 1, 1) := by decide +kernel
theorem dd_L_law_968 : decode cL_law 968 = .ok (.iadd, 1) := by decide +kernel
theorem dd_L_law_969 : decode cL_law 969 = .ok (.iaload, 1) := by decide +kernel
def tb_L25a (L : Nat) (xs : Nat → Int32) (kd : Nat → Nat) : zTab := [(964, zt_aload 1 965), (965, zt_aload 0 966), (966, zt_iload 3 967), (967, zt_const (zI 1) 968), (968, zt_bin (fun x y => x + y) 969), (969, zt_sld L xs 970)]
def cu_L25a : zCut := [(970, [])]
set_option maxRecDepth 20000 in
theorem tk_L25a {p : Program} {l : Launch} {e : Env} {R : Room} {s : State} {m : MethodId} {args : Array Value} {below : List Frame} {meth : Method} {c : Code} {D : va_G} {cy : Nat → ClassId} {A : Nat → Prop} {ad : Nat × Nat → Nat} {bl : zBl} {ce so : Nat} {Qm : State → Prop} {b L : Nat} {xs : Nat → Int32} (C0 : zCtx p l e R s m args below meth c D cy A ad bl 4 ce so Qm RL cL_law (60 + 1)) (hX : va_X b L xs s s.heap) (hbl : b < s.heap.size) (hbA : ¬ A b) (hb31 : ∀ o, ad (31, o) = b) : ∀ q ∈ tb_L25a L xs (zkd bl), zOk p l e R s m args below meth c D cy A ad bl 4 ce so Qm q.1 q.2 := by
  obtain ⟨hx, hb, hml, hown, hts, hK, hD, hA0, hN, hE, ⟨hR1, hR2⟩, hc1, hc2⟩ := id C0
  unfold tb_L25a
  refine List.forall_mem_cons.mpr ⟨ok_aload_n hx hb rfl dd_L_law_964, ?_⟩
  refine List.forall_mem_cons.mpr ⟨ok_aload_n hx hb rfl dd_L_law_965, ?_⟩
  refine List.forall_mem_cons.mpr ⟨ok_iload_n hx hb rfl dd_L_law_966, ?_⟩
  refine List.forall_mem_cons.mpr ⟨ok_iconst hx hb dd_L_law_967 (by decide), ?_⟩
  refine List.forall_mem_cons.mpr ⟨ok_iadd hx hb dd_L_law_968, ?_⟩
  refine List.forall_mem_cons.mpr ⟨ok_sld hx hb hX hbl hbA hb31 dd_L_law_969, ?_⟩
  exact fun _ h => absurd h List.not_mem_nil
set_option maxRecDepth 100000 in
theorem vc_L25a_964 {L : Nat} {xs : Nat → Int32} {kd : Nat → Nat} {X : zX} (hX : ∀ (n pc : Nat) (ls : zLS) (st : List zV) (M : zM), zrun (tb_L25a L xs kd) cu_L25a n X pc ls st M → X pc ls st M) {i : Int32} {M : zM}  (h : (vp_in (i + (1 : Int32)) L) ∧ X 970 [some (zR 31 0), some (zR 0 0), some (zR 9 0), some (zI (i))] [zI (xs (i + (1 : Int32)).toNatClampNeg), zR 0 0] M) : X 964 [some (zR 31 0), some (zR 0 0), some (zR 9 0), some (zI (i))] [] M := hX 8 964 _ [] M (show (31 = 31) ∧ (vp_in (i + (1 : Int32)) L) ∧ X 970 [some (zR 31 0), some (zR 0 0), some (zR 9 0), some (zI (i))] [zI (xs (i + (1 : Int32)).toNatClampNeg), zR 0 0] M from ⟨rfl, ⟨h.1, have h := h.2; h⟩⟩)
theorem dd_L_law_973 : decode cL_law 973 = .ok (.aload_n 2, 1) := by decide +kernel
theorem dd_L_law_974 : decode cL_law 974 = .ok (.aload_n 0, 1) := by decide +kernel
theorem dd_L_law_975 : decode cL_law 975 = .ok (.iload_n 3, 1) := by decide +kernel
theorem dd_L_law_976 : decode cL_law 976 = .ok (.iconst 1, 1) := by decide +kernel
theorem dd_L_law_977 : decode cL_law 977 = .ok (.iadd, 1) := by decide +kernel
theorem dd_L_law_978 : decode cL_law 978 = .ok (.iaload, 1) := by decide +kernel
theorem dd_L_law_979 : decode cL_law 979 = .ok (.invokevirtual 122, 3) := by decide +kernel
theorem dd_L_law_982 : decode cL_law 982 = .ok (.if_icmp .eq 88, 3) := by decide +kernel
theorem dd_L_law_985 : decode cL_law 985 = .ok (.iconst 0, 1) := by decide +kernel
theorem dd_L_law_986 : decode cL_law 986 = .ok (.ireturn, 1) := by decide +kernel
def tb_L25b (L : Nat) (xs : Nat → Int32) (kd : Nat → Nat) : zTab := [(973, zt_aload 2 974), (974, zt_aload 0 975), (975, zt_iload 3 976), (976, zt_const (zI 1) 977), (977, zt_bin (fun x y => x + y) 978), (978, zt_sld L xs 979), (979, zt_call kd sp_X8_image 2 982), (982, zt_icmp (fun x y => x = y) (fun x y => ¬ x = y) 1070 985), (985, zt_const (zI 0) 986), (986, (fun _ _ _ _ => False))]
def cu_L25b : zCut := [(1070, [])]
set_option maxRecDepth 20000 in
theorem tk_L25b {p : Program} {l : Launch} {e : Env} {R : Room} {s : State} {m : MethodId} {args : Array Value} {below : List Frame} {meth : Method} {c : Code} {D : va_G} {cy : Nat → ClassId} {A : Nat → Prop} {ad : Nat × Nat → Nat} {bl : zBl} {ce so : Nat} {Qm : State → Prop} {b L : Nat} {xs : Nat → Int32} (C0 : zCtx p l e R s m args below meth c D cy A ad bl 4 ce so Qm RL cL_law (60 + 1)) (hX : va_X b L xs s s.heap) (hbl : b < s.heap.size) (hbA : ¬ A b) (hb31 : ∀ o, ad (31, o) = b) : ∀ q ∈ tb_L25b L xs (zkd bl), zOk p l e R s m args below meth c D cy A ad bl 4 ce so Qm q.1 q.2 := by
  obtain ⟨hx, hb, hml, hown, hts, hK, hD, hA0, hN, hE, ⟨hR1, hR2⟩, hc1, hc2⟩ := id C0
  unfold tb_L25b
  refine List.forall_mem_cons.mpr ⟨ok_aload_n hx hb rfl dd_L_law_973, ?_⟩
  refine List.forall_mem_cons.mpr ⟨ok_aload_n hx hb rfl dd_L_law_974, ?_⟩
  refine List.forall_mem_cons.mpr ⟨ok_iload_n hx hb rfl dd_L_law_975, ?_⟩
  refine List.forall_mem_cons.mpr ⟨ok_iconst hx hb dd_L_law_976 (by decide), ?_⟩
  refine List.forall_mem_cons.mpr ⟨ok_iadd hx hb dd_L_law_977, ?_⟩
  refine List.forall_mem_cons.mpr ⟨ok_sld hx hb hX hbl hbA hb31 dd_L_law_978, ?_⟩
  refine List.forall_mem_cons.mpr ⟨ok_callV (n := 1) zc_X8 rv_X8_image C0 (ms_X8_image 60 (by decide)) (by decide) wd_1218 wd_1215 wd_1216 wd_1217 wd_107 ⟨rfl, by decide +kernel, by decide +kernel, by decide +kernel⟩ dd_L_law_979, ?_⟩
  refine List.forall_mem_cons.mpr ⟨ok_icmp_eq hx hb dd_L_law_982 (by decide), ?_⟩
  refine List.forall_mem_cons.mpr ⟨ok_iconst hx hb dd_L_law_985 (by decide), ?_⟩
  refine List.forall_mem_cons.mpr ⟨ok_dead, ?_⟩
  exact fun _ h => absurd h List.not_mem_nil
set_option maxRecDepth 100000 in
theorem vc_L25b_973 {L : Nat} {xs : Nat → Int32} {kd : Nat → Nat} {X : zX} (hX : ∀ (n pc : Nat) (ls : zLS) (st : List zV) (M : zM), zrun (tb_L25b L xs kd) cu_L25b n X pc ls st M → X pc ls st M) {i : Int32} {v : Int32} {M : zM} (hk0 : kd 9 = 8) (h : (vp_in (i + (1 : Int32)) L) ∧ ∃ s1 : St, (RpM M s1) ∧ ∀ v1 : Int32, (v1.toInt = (ev_image s1 (xs (i + (1 : Int32)).toNatClampNeg).toInt).1) → ∀ M1 : zM, (RpM M1 (ev_image s1 (xs (i + (1 : Int32)).toNatClampNeg).toInt).2) → (fr0 M M1) → ((v = v1) → X 1070 [some (zR 31 0), some (zR 0 0), some (zR 9 0), some (zI (i))] [] M1) ∧ ((¬ v = v1) → False)) : X 973 [some (zR 31 0), some (zR 0 0), some (zR 9 0), some (zI (i))] [zI (v)] M := hX 11 973 _ [zI (v)] M (show (31 = 31) ∧ (vp_in (i + (1 : Int32)) L) ∧ (kd 9 = 8) ∧ ∃ s1 : St, (RpM M s1) ∧ ∀ v1 : Int32, (v1.toInt = (ev_image s1 (xs (i + (1 : Int32)).toNatClampNeg).toInt).1) → ∀ M1 : zM, (RpM M1 (ev_image s1 (xs (i + (1 : Int32)).toNatClampNeg).toInt).2) → (fr0 M M1) → ((v = v1) → X 1070 [some (zR 31 0), some (zR 0 0), some (zR 9 0), some (zI (i))] [] M1) ∧ ((¬ v = v1) → False) from ⟨rfl, ⟨h.1, have h := h.2; ⟨hk0, h.elim (fun s1 h => ⟨s1, ⟨h.1, have h := h.2; fun v1 => have h := h v1; fun q => have h := h q; fun M1 => have h := h M1; fun q => have h := h q; fun q => have h := h q; ⟨fun q => have h := h.1 q; h, fun q => have h := h.2 q; h⟩⟩⟩)⟩⟩⟩)
theorem dd_L_law_987 : decode cL_law 987 = .ok (.aload_n 1, 1) := by decide +kernel
theorem dd_L_law_988 : decode cL_law 988 = .ok (.aload_n 0, 1) := by decide +kernel
theorem dd_L_law_989 : decode cL_law 989 = .ok (.iload_n 3, 1) := by decide +kernel
theorem dd_L_law_990 : decode cL_law 990 = .ok (.iconst 1, 1) := by decide +kernel
theorem dd_L_law_991 : decode cL_law 991 = .ok (.iadd, 1) := by decide +kernel
theorem dd_L_law_992 : decode cL_law 992 = .ok (.iaload, 1) := by decide +kernel
theorem dd_L_law_993 : decode cL_law 993 = .ok (.invokevirtual 123, 3) := by decide +kernel
theorem dd_L_law_996 : decode cL_law 996 = .ok (.aload_n 2, 1) := by decide +kernel
theorem dd_L_law_997 : decode cL_law 997 = .ok (.aload_n 0, 1) := by decide +kernel
theorem dd_L_law_998 : decode cL_law 998 = .ok (.iload_n 3, 1) := by decide +kernel
theorem dd_L_law_999 : decode cL_law 999 = .ok (.iconst 1, 1) := by decide +kernel
theorem dd_L_law_1000 : decode cL_law 1000 = .ok (.iadd, 1) := by decide +kernel
theorem dd_L_law_1001 : decode cL_law 1001 = .ok (.iaload, 1) := by decide +kernel
theorem dd_L_law_1002 : decode cL_law 1002 = .ok (.invokevirtual 126, 3) := by decide +kernel
theorem dd_L_law_1005 : decode cL_law 1005 = .ok (.if_icmp .eq 65, 3) := by decide +kernel
theorem dd_L_law_1008 : decode cL_law 1008 = .ok (.iconst 0, 1) := by decide +kernel
theorem dd_L_law_1009 : decode cL_law 1009 = .ok (.ireturn, 1) := by decide +kernel
def tb_L26 (L : Nat) (xs : Nat → Int32) (kd : Nat → Nat) : zTab := [(987, zt_aload 1 988), (988, zt_aload 0 989), (989, zt_iload 3 990), (990, zt_const (zI 1) 991), (991, zt_bin (fun x y => x + y) 992), (992, zt_sld L xs 993), (993, zt_call kd sp_X7_from 2 996), (996, zt_aload 2 997), (997, zt_aload 0 998), (998, zt_iload 3 999), (999, zt_const (zI 1) 1000), (1000, zt_bin (fun x y => x + y) 1001), (1001, zt_sld L xs 1002), (1002, zt_call kd sp_X8_from 2 1005), (1005, zt_icmp (fun x y => x = y) (fun x y => ¬ x = y) 1070 1008), (1008, zt_const (zI 0) 1009), (1009, (fun _ _ _ _ => False))]
def cu_L26 : zCut := [(1070, [])]
set_option maxRecDepth 20000 in
theorem tk_L26 {p : Program} {l : Launch} {e : Env} {R : Room} {s : State} {m : MethodId} {args : Array Value} {below : List Frame} {meth : Method} {c : Code} {D : va_G} {cy : Nat → ClassId} {A : Nat → Prop} {ad : Nat × Nat → Nat} {bl : zBl} {ce so : Nat} {Qm : State → Prop} {b L : Nat} {xs : Nat → Int32} (C0 : zCtx p l e R s m args below meth c D cy A ad bl 4 ce so Qm RL cL_law (60 + 1)) (hX : va_X b L xs s s.heap) (hbl : b < s.heap.size) (hbA : ¬ A b) (hb31 : ∀ o, ad (31, o) = b) : ∀ q ∈ tb_L26 L xs (zkd bl), zOk p l e R s m args below meth c D cy A ad bl 4 ce so Qm q.1 q.2 := by
  obtain ⟨hx, hb, hml, hown, hts, hK, hD, hA0, hN, hE, ⟨hR1, hR2⟩, hc1, hc2⟩ := id C0
  unfold tb_L26
  refine List.forall_mem_cons.mpr ⟨ok_aload_n hx hb rfl dd_L_law_987, ?_⟩
  refine List.forall_mem_cons.mpr ⟨ok_aload_n hx hb rfl dd_L_law_988, ?_⟩
  refine List.forall_mem_cons.mpr ⟨ok_iload_n hx hb rfl dd_L_law_989, ?_⟩
  refine List.forall_mem_cons.mpr ⟨ok_iconst hx hb dd_L_law_990 (by decide), ?_⟩
  refine List.forall_mem_cons.mpr ⟨ok_iadd hx hb dd_L_law_991, ?_⟩
  refine List.forall_mem_cons.mpr ⟨ok_sld hx hb hX hbl hbA hb31 dd_L_law_992, ?_⟩
  refine List.forall_mem_cons.mpr ⟨ok_callV (n := 1) zc_X7 rv_X7_from C0 (ms_X7_from 60 (by decide)) (by decide) wd_797 wd_794 wd_795 wd_796 wd_100 ⟨rfl, by decide +kernel, by decide +kernel, by decide +kernel⟩ dd_L_law_993, ?_⟩
  refine List.forall_mem_cons.mpr ⟨ok_aload_n hx hb rfl dd_L_law_996, ?_⟩
  refine List.forall_mem_cons.mpr ⟨ok_aload_n hx hb rfl dd_L_law_997, ?_⟩
  refine List.forall_mem_cons.mpr ⟨ok_iload_n hx hb rfl dd_L_law_998, ?_⟩
  refine List.forall_mem_cons.mpr ⟨ok_iconst hx hb dd_L_law_999 (by decide), ?_⟩
  refine List.forall_mem_cons.mpr ⟨ok_iadd hx hb dd_L_law_1000, ?_⟩
  refine List.forall_mem_cons.mpr ⟨ok_sld hx hb hX hbl hbA hb31 dd_L_law_1001, ?_⟩
  refine List.forall_mem_cons.mpr ⟨ok_callV (n := 1) zc_X8 rv_X8_from C0 (ms_X8_from 60 (by decide)) (by decide) wd_1222 wd_1219 wd_1220 wd_1221 wd_107 ⟨rfl, by decide +kernel, by decide +kernel, by decide +kernel⟩ dd_L_law_1002, ?_⟩
  refine List.forall_mem_cons.mpr ⟨ok_icmp_eq hx hb dd_L_law_1005 (by decide), ?_⟩
  refine List.forall_mem_cons.mpr ⟨ok_iconst hx hb dd_L_law_1008 (by decide), ?_⟩
  refine List.forall_mem_cons.mpr ⟨ok_dead, ?_⟩
  exact fun _ h => absurd h List.not_mem_nil
set_option maxRecDepth 100000 in
theorem vc_L26_987 {L : Nat} {xs : Nat → Int32} {kd : Nat → Nat} {X : zX} (hX : ∀ (n pc : Nat) (ls : zLS) (st : List zV) (M : zM), zrun (tb_L26 L xs kd) cu_L26 n X pc ls st M → X pc ls st M) {i : Int32} {M : zM} (hk0 : kd 9 = 8) (hk1 : kd 0 = 1) (h : (vp_in (i + (1 : Int32)) L) ∧ (KdX kd) ∧ ∃ s1 : St, (RpX kd M s1) ∧ ∀ v1 : Int32, (v1.toInt = (ev_from s1 (xs (i + (1 : Int32)).toNatClampNeg).toInt).1) → ∀ M1 : zM, (RpX kd M1 (ev_from s1 (xs (i + (1 : Int32)).toNatClampNeg).toInt).2) → (fr9 M M1) → (vp_in (i + (1 : Int32)) L) ∧ ∃ s2 : St, (RpM M1 s2) ∧ ∀ v2 : Int32, (v2.toInt = (ev_from s2 (xs (i + (1 : Int32)).toNatClampNeg).toInt).1) → ∀ M2 : zM, (RpM M2 (ev_from s2 (xs (i + (1 : Int32)).toNatClampNeg).toInt).2) → (fr0 M1 M2) → ((v1 = v2) → X 1070 [some (zR 31 0), some (zR 0 0), some (zR 9 0), some (zI (i))] [] M2) ∧ ((¬ v1 = v2) → False)) : X 987 [some (zR 31 0), some (zR 0 0), some (zR 9 0), some (zI (i))] [] M := hX 18 987 _ [] M (show (31 = 31) ∧ (vp_in (i + (1 : Int32)) L) ∧ (kd 0 = 1) ∧ (KdX kd) ∧ ∃ s1 : St, (RpX kd M s1) ∧ ∀ v1 : Int32, (v1.toInt = (ev_from s1 (xs (i + (1 : Int32)).toNatClampNeg).toInt).1) → ∀ M1 : zM, (RpX kd M1 (ev_from s1 (xs (i + (1 : Int32)).toNatClampNeg).toInt).2) → (fr9 M M1) → (31 = 31) ∧ (vp_in (i + (1 : Int32)) L) ∧ (kd 9 = 8) ∧ ∃ s2 : St, (RpM M1 s2) ∧ ∀ v2 : Int32, (v2.toInt = (ev_from s2 (xs (i + (1 : Int32)).toNatClampNeg).toInt).1) → ∀ M2 : zM, (RpM M2 (ev_from s2 (xs (i + (1 : Int32)).toNatClampNeg).toInt).2) → (fr0 M1 M2) → ((v1 = v2) → X 1070 [some (zR 31 0), some (zR 0 0), some (zR 9 0), some (zI (i))] [] M2) ∧ ((¬ v1 = v2) → False) from ⟨rfl, ⟨h.1, have h := h.2; ⟨hk1, ⟨h.1, have h := h.2; h.elim (fun s1 h => ⟨s1, ⟨h.1, have h := h.2; fun v1 => have h := h v1; fun q => have h := h q; fun M1 => have h := h M1; fun q => have h := h q; fun q => have h := h q; ⟨rfl, ⟨h.1, have h := h.2; ⟨hk0, h.elim (fun s2 h => ⟨s2, ⟨h.1, have h := h.2; fun v2 => have h := h v2; fun q => have h := h q; fun M2 => have h := h M2; fun q => have h := h q; fun q => have h := h q; ⟨fun q => have h := h.1 q; h, fun q => have h := h.2 q; h⟩⟩⟩)⟩⟩⟩⟩⟩)⟩⟩⟩⟩)
theorem dd_L_law_1010 : decode cL_law 1010 = .ok (.aload_n 1, 1) := by decide +kernel
theorem dd_L_law_1011 : decode cL_law 1011 = .ok (.aload_n 0, 1) := by decide +kernel
theorem dd_L_law_1012 : decode cL_law 1012 = .ok (.iload_n 3, 1) := by decide +kernel
theorem dd_L_law_1013 : decode cL_law 1013 = .ok (.iconst 1, 1) := by decide +kernel
theorem dd_L_law_1014 : decode cL_law 1014 = .ok (.iadd, 1) := by decide +kernel
theorem dd_L_law_1015 : decode cL_law 1015 = .ok (.iaload, 1) := by decide +kernel
theorem dd_L_law_1016 : decode cL_law 1016 = .ok (.invokevirtual 127, 3) := by decide +kernel
theorem dd_L_law_1019 : decode cL_law 1019 = .ok (.aload_n 2, 1) := by decide +kernel
theorem dd_L_law_1020 : decode cL_law 1020 = .ok (.aload_n 0, 1) := by decide +kernel
theorem dd_L_law_1021 : decode cL_law 1021 = .ok (.iload_n 3, 1) := by decide +kernel
theorem dd_L_law_1022 : decode cL_law 1022 = .ok (.iconst 1, 1) := by decide +kernel
theorem dd_L_law_1023 : decode cL_law 1023 = .ok (.iadd, 1) := by decide +kernel
theorem dd_L_law_1024 : decode cL_law 1024 = .ok (.iaload, 1) := by decide +kernel
theorem dd_L_law_1025 : decode cL_law 1025 = .ok (.invokevirtual 130, 3) := by decide +kernel
theorem dd_L_law_1028 : decode cL_law 1028 = .ok (.if_icmp .eq 42, 3) := by decide +kernel
theorem dd_L_law_1031 : decode cL_law 1031 = .ok (.iconst 0, 1) := by decide +kernel
theorem dd_L_law_1032 : decode cL_law 1032 = .ok (.ireturn, 1) := by decide +kernel
def tb_L27 (L : Nat) (xs : Nat → Int32) (kd : Nat → Nat) : zTab := [(1010, zt_aload 1 1011), (1011, zt_aload 0 1012), (1012, zt_iload 3 1013), (1013, zt_const (zI 1) 1014), (1014, zt_bin (fun x y => x + y) 1015), (1015, zt_sld L xs 1016), (1016, zt_call kd sp_X7_status 2 1019), (1019, zt_aload 2 1020), (1020, zt_aload 0 1021), (1021, zt_iload 3 1022), (1022, zt_const (zI 1) 1023), (1023, zt_bin (fun x y => x + y) 1024), (1024, zt_sld L xs 1025), (1025, zt_call kd sp_X8_status 2 1028), (1028, zt_icmp (fun x y => x = y) (fun x y => ¬ x = y) 1070 1031), (1031, zt_const (zI 0) 1032), (1032, (fun _ _ _ _ => False))]
def cu_L27 : zCut := [(1070, [])]
set_option maxRecDepth 20000 in
theorem tk_L27 {p : Program} {l : Launch} {e : Env} {R : Room} {s : State} {m : MethodId} {args : Array Value} {below : List Frame} {meth : Method} {c : Code} {D : va_G} {cy : Nat → ClassId} {A : Nat → Prop} {ad : Nat × Nat → Nat} {bl : zBl} {ce so : Nat} {Qm : State → Prop} {b L : Nat} {xs : Nat → Int32} (C0 : zCtx p l e R s m args below meth c D cy A ad bl 4 ce so Qm RL cL_law (60 + 1)) (hX : va_X b L xs s s.heap) (hbl : b < s.heap.size) (hbA : ¬ A b) (hb31 : ∀ o, ad (31, o) = b) : ∀ q ∈ tb_L27 L xs (zkd bl), zOk p l e R s m args below meth c D cy A ad bl 4 ce so Qm q.1 q.2 := by
  obtain ⟨hx, hb, hml, hown, hts, hK, hD, hA0, hN, hE, ⟨hR1, hR2⟩, hc1, hc2⟩ := id C0
  unfold tb_L27
  refine List.forall_mem_cons.mpr ⟨ok_aload_n hx hb rfl dd_L_law_1010, ?_⟩
  refine List.forall_mem_cons.mpr ⟨ok_aload_n hx hb rfl dd_L_law_1011, ?_⟩
  refine List.forall_mem_cons.mpr ⟨ok_iload_n hx hb rfl dd_L_law_1012, ?_⟩
  refine List.forall_mem_cons.mpr ⟨ok_iconst hx hb dd_L_law_1013 (by decide), ?_⟩
  refine List.forall_mem_cons.mpr ⟨ok_iadd hx hb dd_L_law_1014, ?_⟩
  refine List.forall_mem_cons.mpr ⟨ok_sld hx hb hX hbl hbA hb31 dd_L_law_1015, ?_⟩
  refine List.forall_mem_cons.mpr ⟨ok_callV (n := 1) zc_X7 rv_X7_status C0 (ms_X7_status 60 (by decide)) (by decide) wd_801 wd_798 wd_799 wd_800 wd_100 ⟨rfl, by decide +kernel, by decide +kernel, by decide +kernel⟩ dd_L_law_1016, ?_⟩
  refine List.forall_mem_cons.mpr ⟨ok_aload_n hx hb rfl dd_L_law_1019, ?_⟩
  refine List.forall_mem_cons.mpr ⟨ok_aload_n hx hb rfl dd_L_law_1020, ?_⟩
  refine List.forall_mem_cons.mpr ⟨ok_iload_n hx hb rfl dd_L_law_1021, ?_⟩
  refine List.forall_mem_cons.mpr ⟨ok_iconst hx hb dd_L_law_1022 (by decide), ?_⟩
  refine List.forall_mem_cons.mpr ⟨ok_iadd hx hb dd_L_law_1023, ?_⟩
  refine List.forall_mem_cons.mpr ⟨ok_sld hx hb hX hbl hbA hb31 dd_L_law_1024, ?_⟩
  refine List.forall_mem_cons.mpr ⟨ok_callV (n := 1) zc_X8 rv_X8_status C0 (ms_X8_status 60 (by decide)) (by decide) wd_1226 wd_1223 wd_1224 wd_1225 wd_107 ⟨rfl, by decide +kernel, by decide +kernel, by decide +kernel⟩ dd_L_law_1025, ?_⟩
  refine List.forall_mem_cons.mpr ⟨ok_icmp_eq hx hb dd_L_law_1028 (by decide), ?_⟩
  refine List.forall_mem_cons.mpr ⟨ok_iconst hx hb dd_L_law_1031 (by decide), ?_⟩
  refine List.forall_mem_cons.mpr ⟨ok_dead, ?_⟩
  exact fun _ h => absurd h List.not_mem_nil
set_option maxRecDepth 100000 in
theorem vc_L27_1010 {L : Nat} {xs : Nat → Int32} {kd : Nat → Nat} {X : zX} (hX : ∀ (n pc : Nat) (ls : zLS) (st : List zV) (M : zM), zrun (tb_L27 L xs kd) cu_L27 n X pc ls st M → X pc ls st M) {i : Int32} {M : zM} (hk0 : kd 9 = 8) (hk1 : kd 0 = 1) (h : (vp_in (i + (1 : Int32)) L) ∧ (KdX kd) ∧ ∃ s1 : St, (RpX kd M s1) ∧ ∀ v1 : Int32, (v1.toInt = (ev_status s1 (xs (i + (1 : Int32)).toNatClampNeg).toInt).1) → ∀ M1 : zM, (RpX kd M1 (ev_status s1 (xs (i + (1 : Int32)).toNatClampNeg).toInt).2) → (fr9 M M1) → (vp_in (i + (1 : Int32)) L) ∧ ∃ s2 : St, (RpM M1 s2) ∧ ∀ v2 : Int32, (v2.toInt = (ev_status s2 (xs (i + (1 : Int32)).toNatClampNeg).toInt).1) → ∀ M2 : zM, (RpM M2 (ev_status s2 (xs (i + (1 : Int32)).toNatClampNeg).toInt).2) → (fr0 M1 M2) → ((v1 = v2) → X 1070 [some (zR 31 0), some (zR 0 0), some (zR 9 0), some (zI (i))] [] M2) ∧ ((¬ v1 = v2) → False)) : X 1010 [some (zR 31 0), some (zR 0 0), some (zR 9 0), some (zI (i))] [] M := hX 18 1010 _ [] M (show (31 = 31) ∧ (vp_in (i + (1 : Int32)) L) ∧ (kd 0 = 1) ∧ (KdX kd) ∧ ∃ s1 : St, (RpX kd M s1) ∧ ∀ v1 : Int32, (v1.toInt = (ev_status s1 (xs (i + (1 : Int32)).toNatClampNeg).toInt).1) → ∀ M1 : zM, (RpX kd M1 (ev_status s1 (xs (i + (1 : Int32)).toNatClampNeg).toInt).2) → (fr9 M M1) → (31 = 31) ∧ (vp_in (i + (1 : Int32)) L) ∧ (kd 9 = 8) ∧ ∃ s2 : St, (RpM M1 s2) ∧ ∀ v2 : Int32, (v2.toInt = (ev_status s2 (xs (i + (1 : Int32)).toNatClampNeg).toInt).1) → ∀ M2 : zM, (RpM M2 (ev_status s2 (xs (i + (1 : Int32)).toNatClampNeg).toInt).2) → (fr0 M1 M2) → ((v1 = v2) → X 1070 [some (zR 31 0), some (zR 0 0), some (zR 9 0), some (zI (i))] [] M2) ∧ ((¬ v1 = v2) → False) from ⟨rfl, ⟨h.1, have h := h.2; ⟨hk1, ⟨h.1, have h := h.2; h.elim (fun s1 h => ⟨s1, ⟨h.1, have h := h.2; fun v1 => have h := h v1; fun q => have h := h q; fun M1 => have h := h M1; fun q => have h := h q; fun q => have h := h q; ⟨rfl, ⟨h.1, have h := h.2; ⟨hk0, h.elim (fun s2 h => ⟨s2, ⟨h.1, have h := h.2; fun v2 => have h := h v2; fun q => have h := h q; fun M2 => have h := h M2; fun q => have h := h q; fun q => have h := h q; ⟨fun q => have h := h.1 q; h, fun q => have h := h.2 q; h⟩⟩⟩)⟩⟩⟩⟩⟩)⟩⟩⟩⟩)
theorem dd_L_law_1033 : decode cL_law 1033 = .ok (.aload_n 1, 1) := by decide +kernel
theorem dd_L_law_1034 : decode cL_law 1034 = .ok (.aload_n 0, 1) := by decide +kernel
theorem dd_L_law_1035 : decode cL_law 1035 = .ok (.iload_n 3, 1) := by decide +kernel
theorem dd_L_law_1036 : decode cL_law 1036 = .ok (.iconst 1, 1) := by decide +kernel
theorem dd_L_law_1037 : decode cL_law 1037 = .ok (.iadd, 1) := by decide +kernel
theorem dd_L_law_1038 : decode cL_law 1038 = .ok (.iaload, 1) := by decide +kernel
theorem dd_L_law_1039 : decode cL_law 1039 = .ok (.invokevirtual 131, 3) := by decide +kernel
theorem dd_L_law_1042 : decode cL_law 1042 = .ok (.aload_n 2, 1) := by decide +kernel
theorem dd_L_law_1043 : decode cL_law 1043 = .ok (.aload_n 0, 1) := by decide +kernel
theorem dd_L_law_1044 : decode cL_law 1044 = .ok (.iload_n 3, 1) := by decide +kernel
theorem dd_L_law_1045 : decode cL_law 1045 = .ok (.iconst 1, 1) := by decide +kernel
theorem dd_L_law_1046 : decode cL_law 1046 = .ok (.iadd, 1) := by decide +kernel
theorem dd_L_law_1047 : decode cL_law 1047 = .ok (.iaload, 1) := by decide +kernel
theorem dd_L_law_1048 : decode cL_law 1048 = .ok (.invokevirtual 134, 3) := by decide +kernel
theorem dd_L_law_1051 : decode cL_law 1051 = .ok (.if_icmp .eq 19, 3) := by decide +kernel
theorem dd_L_law_1054 : decode cL_law 1054 = .ok (.iconst 0, 1) := by decide +kernel
theorem dd_L_law_1055 : decode cL_law 1055 = .ok (.ireturn, 1) := by decide +kernel
def tb_L28 (L : Nat) (xs : Nat → Int32) (kd : Nat → Nat) : zTab := [(1033, zt_aload 1 1034), (1034, zt_aload 0 1035), (1035, zt_iload 3 1036), (1036, zt_const (zI 1) 1037), (1037, zt_bin (fun x y => x + y) 1038), (1038, zt_sld L xs 1039), (1039, zt_call kd sp_X7_count 2 1042), (1042, zt_aload 2 1043), (1043, zt_aload 0 1044), (1044, zt_iload 3 1045), (1045, zt_const (zI 1) 1046), (1046, zt_bin (fun x y => x + y) 1047), (1047, zt_sld L xs 1048), (1048, zt_call kd sp_X8_count 2 1051), (1051, zt_icmp (fun x y => x = y) (fun x y => ¬ x = y) 1070 1054), (1054, zt_const (zI 0) 1055), (1055, (fun _ _ _ _ => False))]
def cu_L28 : zCut := [(1070, [])]
set_option maxRecDepth 20000 in
theorem tk_L28 {p : Program} {l : Launch} {e : Env} {R : Room} {s : State} {m : MethodId} {args : Array Value} {below : List Frame} {meth : Method} {c : Code} {D : va_G} {cy : Nat → ClassId} {A : Nat → Prop} {ad : Nat × Nat → Nat} {bl : zBl} {ce so : Nat} {Qm : State → Prop} {b L : Nat} {xs : Nat → Int32} (C0 : zCtx p l e R s m args below meth c D cy A ad bl 4 ce so Qm RL cL_law (60 + 1)) (hX : va_X b L xs s s.heap) (hbl : b < s.heap.size) (hbA : ¬ A b) (hb31 : ∀ o, ad (31, o) = b) : ∀ q ∈ tb_L28 L xs (zkd bl), zOk p l e R s m args below meth c D cy A ad bl 4 ce so Qm q.1 q.2 := by
  obtain ⟨hx, hb, hml, hown, hts, hK, hD, hA0, hN, hE, ⟨hR1, hR2⟩, hc1, hc2⟩ := id C0
  unfold tb_L28
  refine List.forall_mem_cons.mpr ⟨ok_aload_n hx hb rfl dd_L_law_1033, ?_⟩
  refine List.forall_mem_cons.mpr ⟨ok_aload_n hx hb rfl dd_L_law_1034, ?_⟩
  refine List.forall_mem_cons.mpr ⟨ok_iload_n hx hb rfl dd_L_law_1035, ?_⟩
  refine List.forall_mem_cons.mpr ⟨ok_iconst hx hb dd_L_law_1036 (by decide), ?_⟩
  refine List.forall_mem_cons.mpr ⟨ok_iadd hx hb dd_L_law_1037, ?_⟩
  refine List.forall_mem_cons.mpr ⟨ok_sld hx hb hX hbl hbA hb31 dd_L_law_1038, ?_⟩
  refine List.forall_mem_cons.mpr ⟨ok_callV (n := 1) zc_X7 rv_X7_count C0 (ms_X7_count 60 (by decide)) (by decide) wd_805 wd_802 wd_803 wd_804 wd_100 ⟨rfl, by decide +kernel, by decide +kernel, by decide +kernel⟩ dd_L_law_1039, ?_⟩
  refine List.forall_mem_cons.mpr ⟨ok_aload_n hx hb rfl dd_L_law_1042, ?_⟩
  refine List.forall_mem_cons.mpr ⟨ok_aload_n hx hb rfl dd_L_law_1043, ?_⟩
  refine List.forall_mem_cons.mpr ⟨ok_iload_n hx hb rfl dd_L_law_1044, ?_⟩
  refine List.forall_mem_cons.mpr ⟨ok_iconst hx hb dd_L_law_1045 (by decide), ?_⟩
  refine List.forall_mem_cons.mpr ⟨ok_iadd hx hb dd_L_law_1046, ?_⟩
  refine List.forall_mem_cons.mpr ⟨ok_sld hx hb hX hbl hbA hb31 dd_L_law_1047, ?_⟩
  refine List.forall_mem_cons.mpr ⟨ok_callV (n := 1) zc_X8 rv_X8_count C0 (ms_X8_count 60 (by decide)) (by decide) wd_1230 wd_1227 wd_1228 wd_1229 wd_107 ⟨rfl, by decide +kernel, by decide +kernel, by decide +kernel⟩ dd_L_law_1048, ?_⟩
  refine List.forall_mem_cons.mpr ⟨ok_icmp_eq hx hb dd_L_law_1051 (by decide), ?_⟩
  refine List.forall_mem_cons.mpr ⟨ok_iconst hx hb dd_L_law_1054 (by decide), ?_⟩
  refine List.forall_mem_cons.mpr ⟨ok_dead, ?_⟩
  exact fun _ h => absurd h List.not_mem_nil
set_option maxRecDepth 100000 in
theorem vc_L28_1033 {L : Nat} {xs : Nat → Int32} {kd : Nat → Nat} {X : zX} (hX : ∀ (n pc : Nat) (ls : zLS) (st : List zV) (M : zM), zrun (tb_L28 L xs kd) cu_L28 n X pc ls st M → X pc ls st M) {i : Int32} {M : zM} (hk0 : kd 9 = 8) (hk1 : kd 0 = 1) (h : (vp_in (i + (1 : Int32)) L) ∧ (KdX kd) ∧ ∃ s1 : St, (RpX kd M s1) ∧ ∀ v1 : Int32, (v1.toInt = (ev_count s1 (xs (i + (1 : Int32)).toNatClampNeg).toInt).1) → ∀ M1 : zM, (RpX kd M1 (ev_count s1 (xs (i + (1 : Int32)).toNatClampNeg).toInt).2) → (fr9 M M1) → (vp_in (i + (1 : Int32)) L) ∧ ∃ s2 : St, (RpM M1 s2) ∧ ∀ v2 : Int32, (v2.toInt = (ev_count s2 (xs (i + (1 : Int32)).toNatClampNeg).toInt).1) → ∀ M2 : zM, (RpM M2 (ev_count s2 (xs (i + (1 : Int32)).toNatClampNeg).toInt).2) → (fr0 M1 M2) → ((v1 = v2) → X 1070 [some (zR 31 0), some (zR 0 0), some (zR 9 0), some (zI (i))] [] M2) ∧ ((¬ v1 = v2) → False)) : X 1033 [some (zR 31 0), some (zR 0 0), some (zR 9 0), some (zI (i))] [] M := hX 18 1033 _ [] M (show (31 = 31) ∧ (vp_in (i + (1 : Int32)) L) ∧ (kd 0 = 1) ∧ (KdX kd) ∧ ∃ s1 : St, (RpX kd M s1) ∧ ∀ v1 : Int32, (v1.toInt = (ev_count s1 (xs (i + (1 : Int32)).toNatClampNeg).toInt).1) → ∀ M1 : zM, (RpX kd M1 (ev_count s1 (xs (i + (1 : Int32)).toNatClampNeg).toInt).2) → (fr9 M M1) → (31 = 31) ∧ (vp_in (i + (1 : Int32)) L) ∧ (kd 9 = 8) ∧ ∃ s2 : St, (RpM M1 s2) ∧ ∀ v2 : Int32, (v2.toInt = (ev_count s2 (xs (i + (1 : Int32)).toNatClampNeg).toInt).1) → ∀ M2 : zM, (RpM M2 (ev_count s2 (xs (i + (1 : Int32)).toNatClampNeg).toInt).2) → (fr0 M1 M2) → ((v1 = v2) → X 1070 [some (zR 31 0), some (zR 0 0), some (zR 9 0), some (zI (i))] [] M2) ∧ ((¬ v1 = v2) → False) from ⟨rfl, ⟨h.1, have h := h.2; ⟨hk1, ⟨h.1, have h := h.2; h.elim (fun s1 h => ⟨s1, ⟨h.1, have h := h.2; fun v1 => have h := h v1; fun q => have h := h q; fun M1 => have h := h M1; fun q => have h := h q; fun q => have h := h q; ⟨rfl, ⟨h.1, have h := h.2; ⟨hk0, h.elim (fun s2 h => ⟨s2, ⟨h.1, have h := h.2; fun v2 => have h := h v2; fun q => have h := h q; fun M2 => have h := h M2; fun q => have h := h q; fun q => have h := h q; ⟨fun q => have h := h.1 q; h, fun q => have h := h.2 q; h⟩⟩⟩)⟩⟩⟩⟩⟩)⟩⟩⟩⟩)
theorem dd_L_law_1056 : decode cL_law 1056 = .ok (.aload_n 1, 1) := by decide +kernel
theorem dd_L_law_1057 : decode cL_law 1057 = .ok (.invokevirtual 135, 3) := by decide +kernel
theorem dd_L_law_1060 : decode cL_law 1060 = .ok (.aload_n 2, 1) := by decide +kernel
theorem dd_L_law_1061 : decode cL_law 1061 = .ok (.invokevirtual 139, 3) := by decide +kernel
theorem dd_L_law_1064 : decode cL_law 1064 = .ok (.lcmp, 1) := by decide +kernel
theorem dd_L_law_1065 : decode cL_law 1065 = .ok (.ifCond .eq 5, 3) := by decide +kernel
theorem dd_L_law_1068 : decode cL_law 1068 = .ok (.iconst 0, 1) := by decide +kernel
theorem dd_L_law_1069 : decode cL_law 1069 = .ok (.ireturn, 1) := by decide +kernel
def tb_L29 (L : Nat) (xs : Nat → Int32) (kd : Nat → Nat) : zTab := [(1056, zt_aload 1 1057), (1057, zt_call kd sp_X7_digest 1 1060), (1060, zt_aload 2 1061), (1061, zt_call kd sp_X8_digest 1 1064), (1064, zt_lcmp 1065), (1065, zt_if (fun x => x = 0) (fun x => ¬ x = 0) 1070 1068), (1068, zt_const (zI 0) 1069), (1069, (fun _ _ _ _ => False))]
def cu_L29 : zCut := [(1070, [])]
set_option maxRecDepth 20000 in
theorem tk_L29 {p : Program} {l : Launch} {e : Env} {R : Room} {s : State} {m : MethodId} {args : Array Value} {below : List Frame} {meth : Method} {c : Code} {D : va_G} {cy : Nat → ClassId} {A : Nat → Prop} {ad : Nat × Nat → Nat} {bl : zBl} {ce so : Nat} {Qm : State → Prop} {b L : Nat} {xs : Nat → Int32} (C0 : zCtx p l e R s m args below meth c D cy A ad bl 4 ce so Qm RL cL_law (60 + 1)) (hX : va_X b L xs s s.heap) (hbl : b < s.heap.size) (hbA : ¬ A b) (hb31 : ∀ o, ad (31, o) = b) : ∀ q ∈ tb_L29 L xs (zkd bl), zOk p l e R s m args below meth c D cy A ad bl 4 ce so Qm q.1 q.2 := by
  obtain ⟨hx, hb, hml, hown, hts, hK, hD, hA0, hN, hE, ⟨hR1, hR2⟩, hc1, hc2⟩ := id C0
  unfold tb_L29
  refine List.forall_mem_cons.mpr ⟨ok_aload_n hx hb rfl dd_L_law_1056, ?_⟩
  refine List.forall_mem_cons.mpr ⟨ok_callV (n := 0) zc_X7 rv_X7_digest C0 (ms_X7_digest 60 (by decide)) (by decide) wd_813 wd_810 wd_811 wd_812 wd_100 ⟨rfl, by decide +kernel, by decide +kernel, by decide +kernel⟩ dd_L_law_1057, ?_⟩
  refine List.forall_mem_cons.mpr ⟨ok_aload_n hx hb rfl dd_L_law_1060, ?_⟩
  refine List.forall_mem_cons.mpr ⟨ok_callV (n := 0) zc_X8 rv_X8_digest C0 (ms_X8_digest 60 (by decide)) (by decide) wd_1242 wd_1239 wd_1240 wd_1241 wd_107 ⟨rfl, by decide +kernel, by decide +kernel, by decide +kernel⟩ dd_L_law_1061, ?_⟩
  refine List.forall_mem_cons.mpr ⟨ok_lcmp hx hb dd_L_law_1064, ?_⟩
  refine List.forall_mem_cons.mpr ⟨ok_if_eq hx hb dd_L_law_1065 (by decide), ?_⟩
  refine List.forall_mem_cons.mpr ⟨ok_iconst hx hb dd_L_law_1068 (by decide), ?_⟩
  refine List.forall_mem_cons.mpr ⟨ok_dead, ?_⟩
  exact fun _ h => absurd h List.not_mem_nil
set_option maxRecDepth 100000 in
theorem vc_L29_1056 {L : Nat} {xs : Nat → Int32} {kd : Nat → Nat} {X : zX} (hX : ∀ (n pc : Nat) (ls : zLS) (st : List zV) (M : zM), zrun (tb_L29 L xs kd) cu_L29 n X pc ls st M → X pc ls st M) {i : Int32} {M : zM} (hk0 : kd 9 = 8) (hk1 : kd 0 = 1) (h : (KdX kd) ∧ ∃ s1 : St, (RpX kd M s1) ∧ ∀ v1 : Int64, (v1 = ev_digest s1) → ∀ M1 : zM, (RpX kd M1 s1) → (fr9 M M1) → ∃ s2 : St, (RpM M1 s2) ∧ ∀ v2 : Int64, (v2 = ev_digest s2) → ∀ M2 : zM, (RpM M2 s2) → (fr0 M1 M2) → (((lg_cmp v1 v2) = 0) → X 1070 [some (zR 31 0), some (zR 0 0), some (zR 9 0), some (zI (i))] [] M2) ∧ ((¬ (lg_cmp v1 v2) = 0) → False)) : X 1056 [some (zR 31 0), some (zR 0 0), some (zR 9 0), some (zI (i))] [] M := hX 9 1056 _ [] M (show (kd 0 = 1) ∧ (KdX kd) ∧ ∃ s1 : St, (RpX kd M s1) ∧ ∀ v1 : Int64, (v1 = ev_digest s1) → ∀ M1 : zM, (RpX kd M1 s1) → (fr9 M M1) → (kd 9 = 8) ∧ ∃ s2 : St, (RpM M1 s2) ∧ ∀ v2 : Int64, (v2 = ev_digest s2) → ∀ M2 : zM, (RpM M2 s2) → (fr0 M1 M2) → (((lg_cmp v1 v2) = 0) → X 1070 [some (zR 31 0), some (zR 0 0), some (zR 9 0), some (zI (i))] [] M2) ∧ ((¬ (lg_cmp v1 v2) = 0) → False) from ⟨hk1, ⟨h.1, have h := h.2; h.elim (fun s1 h => ⟨s1, ⟨h.1, have h := h.2; fun v1 => have h := h v1; fun q => have h := h q; fun M1 => have h := h M1; fun q => have h := h q; fun q => have h := h q; ⟨hk0, h.elim (fun s2 h => ⟨s2, ⟨h.1, have h := h.2; fun v2 => have h := h v2; fun q => have h := h q; fun M2 => have h := h M2; fun q => have h := h q; fun q => have h := h q; ⟨fun q => have h := h.1 q; h, fun q => have h := h.2 q; h⟩⟩⟩)⟩⟩⟩)⟩⟩)
