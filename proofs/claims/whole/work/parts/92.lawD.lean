theorem dd_L_law_722 : decode cL_law 722 = .ok (.aload_n 1, 1) := by decide +kernel
theorem dd_L_law_723 : decode cL_law 723 = .ok (.aload_n 0, 1) := by decide +kernel
theorem dd_L_law_724 : decode cL_law 724 = .ok (.iload_n 3, 1) := by decide +kernel
theorem dd_L_law_725 : decode cL_law 725 = .ok (.iconst 1, 1) := by decide +kernel
theorem dd_L_law_726 : decode cL_law 726 = .ok (.iadd, 1) := by decide +kernel
theorem dd_L_law_727 : decode cL_law 727 = .ok (.iaload, 1) := by decide +kernel
theorem dd_L_law_728 : decode cL_law 728 = .ok (.aload_n 0, 1) := by decide +kernel
theorem dd_L_law_729 : decode cL_law 729 = .ok (.iload_n 3, 1) := by decide +kernel
theorem dd_L_law_730 : decode cL_law 730 = .ok (.iconst 2, 1) := by decide +kernel
theorem dd_L_law_731 : decode cL_law 731 = .ok (.iadd, 1) := by decide +kernel
theorem dd_L_law_732 : decode cL_law 732 = .ok (.iaload, 1) := by decide +kernel
theorem dd_L_law_733 : decode cL_law 733 = .ok (.aload_n 0, 1) := by decide +kernel
theorem dd_L_law_734 : decode cL_law 734 = .ok (.iload_n 3, 1) := by decide +kernel
theorem dd_L_law_735 : decode cL_law 735 = .ok (.iconst 3, 1) := by decide +kernel
theorem dd_L_law_736 : decode cL_law 736 = .ok (.iadd, 1) := by decide +kernel
theorem dd_L_law_737 : decode cL_law 737 = .ok (.iaload, 1) := by decide +kernel
theorem dd_L_law_738 : decode cL_law 738 = .ok (.aload_n 0, 1) := by decide +kernel
theorem dd_L_law_739 : decode cL_law 739 = .ok (.iload_n 3, 1) := by decide +kernel
theorem dd_L_law_740 : decode cL_law 740 = .ok (.iconst 4, 1) := by decide +kernel
theorem dd_L_law_741 : decode cL_law 741 = .ok (.iadd, 1) := by decide +kernel
theorem dd_L_law_742 : decode cL_law 742 = .ok (.iaload, 1) := by decide +kernel
theorem dd_L_law_743 : decode cL_law 743 = .ok (.invokevirtual 90, 3) := by decide +kernel
theorem dd_L_law_746 : decode cL_law 746 = .ok (.aload_n 2, 1) := by decide +kernel
theorem dd_L_law_747 : decode cL_law 747 = .ok (.aload_n 0, 1) := by decide +kernel
theorem dd_L_law_748 : decode cL_law 748 = .ok (.iload_n 3, 1) := by decide +kernel
theorem dd_L_law_749 : decode cL_law 749 = .ok (.iconst 1, 1) := by decide +kernel
theorem dd_L_law_750 : decode cL_law 750 = .ok (.iadd, 1) := by decide +kernel
theorem dd_L_law_751 : decode cL_law 751 = .ok (.iaload, 1) := by decide +kernel
theorem dd_L_law_752 : decode cL_law 752 = .ok (.aload_n 0, 1) := by decide +kernel
theorem dd_L_law_753 : decode cL_law 753 = .ok (.iload_n 3, 1) := by decide +kernel
theorem dd_L_law_754 : decode cL_law 754 = .ok (.iconst 2, 1) := by decide +kernel
theorem dd_L_law_755 : decode cL_law 755 = .ok (.iadd, 1) := by decide +kernel
theorem dd_L_law_756 : decode cL_law 756 = .ok (.iaload, 1) := by decide +kernel
theorem dd_L_law_757 : decode cL_law 757 = .ok (.aload_n 0, 1) := by decide +kernel
theorem dd_L_law_758 : decode cL_law 758 = .ok (.iload_n 3, 1) := by decide +kernel
theorem dd_L_law_759 : decode cL_law 759 = .ok (.iconst 3, 1) := by decide +kernel
theorem dd_L_law_760 : decode cL_law 760 = .ok (.iadd, 1) := by decide +kernel
theorem dd_L_law_761 : decode cL_law 761 = .ok (.iaload, 1) := by decide +kernel
theorem dd_L_law_762 : decode cL_law 762 = .ok (.aload_n 0, 1) := by decide +kernel
theorem dd_L_law_763 : decode cL_law 763 = .ok (.iload_n 3, 1) := by decide +kernel
theorem dd_L_law_764 : decode cL_law 764 = .ok (.iconst 4, 1) := by decide +kernel
theorem dd_L_law_765 : decode cL_law 765 = .ok (.iadd, 1) := by decide +kernel
theorem dd_L_law_766 : decode cL_law 766 = .ok (.iaload, 1) := by decide +kernel
theorem dd_L_law_767 : decode cL_law 767 = .ok (.invokevirtual 93, 3) := by decide +kernel
theorem dd_L_law_770 : decode cL_law 770 = .ok (.if_icmp .eq 300, 3) := by decide +kernel
theorem dd_L_law_773 : decode cL_law 773 = .ok (.iconst 0, 1) := by decide +kernel
theorem dd_L_law_774 : decode cL_law 774 = .ok (.ireturn, 1) := by decide +kernel
def tb_L18 (L : Nat) (xs : Nat → Int32) (kd : Nat → Nat) : zTab := [(722, zt_aload 1 723), (723, zt_aload 0 724), (724, zt_iload 3 725), (725, zt_const (zI 1) 726), (726, zt_bin (fun x y => x + y) 727), (727, zt_sld L xs 728), (728, zt_aload 0 729), (729, zt_iload 3 730), (730, zt_const (zI 2) 731), (731, zt_bin (fun x y => x + y) 732), (732, zt_sld L xs 733), (733, zt_aload 0 734), (734, zt_iload 3 735), (735, zt_const (zI 3) 736), (736, zt_bin (fun x y => x + y) 737), (737, zt_sld L xs 738), (738, zt_aload 0 739), (739, zt_iload 3 740), (740, zt_const (zI 4) 741), (741, zt_bin (fun x y => x + y) 742), (742, zt_sld L xs 743), (743, zt_call kd sp_X7_seen 5 746), (746, zt_aload 2 747), (747, zt_aload 0 748), (748, zt_iload 3 749), (749, zt_const (zI 1) 750), (750, zt_bin (fun x y => x + y) 751), (751, zt_sld L xs 752), (752, zt_aload 0 753), (753, zt_iload 3 754), (754, zt_const (zI 2) 755), (755, zt_bin (fun x y => x + y) 756), (756, zt_sld L xs 757), (757, zt_aload 0 758), (758, zt_iload 3 759), (759, zt_const (zI 3) 760), (760, zt_bin (fun x y => x + y) 761), (761, zt_sld L xs 762), (762, zt_aload 0 763), (763, zt_iload 3 764), (764, zt_const (zI 4) 765), (765, zt_bin (fun x y => x + y) 766), (766, zt_sld L xs 767), (767, zt_call kd sp_X8_seen 5 770), (770, zt_icmp (fun x y => x = y) (fun x y => ¬ x = y) 1070 773), (773, zt_const (zI 0) 774), (774, (fun _ _ _ _ => False))]
def cu_L18 : zCut := [(1070, [])]
set_option maxRecDepth 20000 in
theorem tk_L18 {p : Program} {l : Launch} {e : Env} {R : Room} {s : State} {m : MethodId} {args : Array Value} {below : List Frame} {meth : Method} {c : Code} {D : va_G} {cy : Nat → ClassId} {A : Nat → Prop} {ad : Nat × Nat → Nat} {bl : zBl} {ce so : Nat} {Qm : State → Prop} {b L : Nat} {xs : Nat → Int32} (C0 : zCtx p l e R s m args below meth c D cy A ad bl 4 ce so Qm RL cL_law (60 + 1)) (hX : va_X b L xs s s.heap) (hbl : b < s.heap.size) (hbA : ¬ A b) (hb31 : ∀ o, ad (31, o) = b) : ∀ q ∈ tb_L18 L xs (zkd bl), zOk p l e R s m args below meth c D cy A ad bl 4 ce so Qm q.1 q.2 := by
  obtain ⟨hx, hb, hml, hown, hts, hK, hD, hA0, hN, hE, ⟨hR1, hR2⟩, hc1, hc2⟩ := id C0
  unfold tb_L18
  refine List.forall_mem_cons.mpr ⟨ok_aload_n hx hb rfl dd_L_law_722, ?_⟩
  refine List.forall_mem_cons.mpr ⟨ok_aload_n hx hb rfl dd_L_law_723, ?_⟩
  refine List.forall_mem_cons.mpr ⟨ok_iload_n hx hb rfl dd_L_law_724, ?_⟩
  refine List.forall_mem_cons.mpr ⟨ok_iconst hx hb dd_L_law_725 (by decide), ?_⟩
  refine List.forall_mem_cons.mpr ⟨ok_iadd hx hb dd_L_law_726, ?_⟩
  refine List.forall_mem_cons.mpr ⟨ok_sld hx hb hX hbl hbA hb31 dd_L_law_727, ?_⟩
  refine List.forall_mem_cons.mpr ⟨ok_aload_n hx hb rfl dd_L_law_728, ?_⟩
  refine List.forall_mem_cons.mpr ⟨ok_iload_n hx hb rfl dd_L_law_729, ?_⟩
  refine List.forall_mem_cons.mpr ⟨ok_iconst hx hb dd_L_law_730 (by decide), ?_⟩
  refine List.forall_mem_cons.mpr ⟨ok_iadd hx hb dd_L_law_731, ?_⟩
  refine List.forall_mem_cons.mpr ⟨ok_sld hx hb hX hbl hbA hb31 dd_L_law_732, ?_⟩
  refine List.forall_mem_cons.mpr ⟨ok_aload_n hx hb rfl dd_L_law_733, ?_⟩
  refine List.forall_mem_cons.mpr ⟨ok_iload_n hx hb rfl dd_L_law_734, ?_⟩
  refine List.forall_mem_cons.mpr ⟨ok_iconst hx hb dd_L_law_735 (by decide), ?_⟩
  refine List.forall_mem_cons.mpr ⟨ok_iadd hx hb dd_L_law_736, ?_⟩
  refine List.forall_mem_cons.mpr ⟨ok_sld hx hb hX hbl hbA hb31 dd_L_law_737, ?_⟩
  refine List.forall_mem_cons.mpr ⟨ok_aload_n hx hb rfl dd_L_law_738, ?_⟩
  refine List.forall_mem_cons.mpr ⟨ok_iload_n hx hb rfl dd_L_law_739, ?_⟩
  refine List.forall_mem_cons.mpr ⟨ok_iconst hx hb dd_L_law_740 (by decide), ?_⟩
  refine List.forall_mem_cons.mpr ⟨ok_iadd hx hb dd_L_law_741, ?_⟩
  refine List.forall_mem_cons.mpr ⟨ok_sld hx hb hX hbl hbA hb31 dd_L_law_742, ?_⟩
  refine List.forall_mem_cons.mpr ⟨ok_callV (n := 4) zc_X7 rv_X7_seen C0 (ms_X7_seen 60 (by decide)) (by decide) wd_695 wd_692 wd_693 wd_694 wd_100 ⟨rfl, by decide +kernel, by decide +kernel, by decide +kernel⟩ dd_L_law_743, ?_⟩
  refine List.forall_mem_cons.mpr ⟨ok_aload_n hx hb rfl dd_L_law_746, ?_⟩
  refine List.forall_mem_cons.mpr ⟨ok_aload_n hx hb rfl dd_L_law_747, ?_⟩
  refine List.forall_mem_cons.mpr ⟨ok_iload_n hx hb rfl dd_L_law_748, ?_⟩
  refine List.forall_mem_cons.mpr ⟨ok_iconst hx hb dd_L_law_749 (by decide), ?_⟩
  refine List.forall_mem_cons.mpr ⟨ok_iadd hx hb dd_L_law_750, ?_⟩
  refine List.forall_mem_cons.mpr ⟨ok_sld hx hb hX hbl hbA hb31 dd_L_law_751, ?_⟩
  refine List.forall_mem_cons.mpr ⟨ok_aload_n hx hb rfl dd_L_law_752, ?_⟩
  refine List.forall_mem_cons.mpr ⟨ok_iload_n hx hb rfl dd_L_law_753, ?_⟩
  refine List.forall_mem_cons.mpr ⟨ok_iconst hx hb dd_L_law_754 (by decide), ?_⟩
  refine List.forall_mem_cons.mpr ⟨ok_iadd hx hb dd_L_law_755, ?_⟩
  refine List.forall_mem_cons.mpr ⟨ok_sld hx hb hX hbl hbA hb31 dd_L_law_756, ?_⟩
  refine List.forall_mem_cons.mpr ⟨ok_aload_n hx hb rfl dd_L_law_757, ?_⟩
  refine List.forall_mem_cons.mpr ⟨ok_iload_n hx hb rfl dd_L_law_758, ?_⟩
  refine List.forall_mem_cons.mpr ⟨ok_iconst hx hb dd_L_law_759 (by decide), ?_⟩
  refine List.forall_mem_cons.mpr ⟨ok_iadd hx hb dd_L_law_760, ?_⟩
  refine List.forall_mem_cons.mpr ⟨ok_sld hx hb hX hbl hbA hb31 dd_L_law_761, ?_⟩
  refine List.forall_mem_cons.mpr ⟨ok_aload_n hx hb rfl dd_L_law_762, ?_⟩
  refine List.forall_mem_cons.mpr ⟨ok_iload_n hx hb rfl dd_L_law_763, ?_⟩
  refine List.forall_mem_cons.mpr ⟨ok_iconst hx hb dd_L_law_764 (by decide), ?_⟩
  refine List.forall_mem_cons.mpr ⟨ok_iadd hx hb dd_L_law_765, ?_⟩
  refine List.forall_mem_cons.mpr ⟨ok_sld hx hb hX hbl hbA hb31 dd_L_law_766, ?_⟩
  refine List.forall_mem_cons.mpr ⟨ok_callV (n := 4) zc_X8 rv_X8_seen C0 (ms_X8_seen 60 (by decide)) (by decide) wd_1102 wd_1099 wd_1100 wd_1101 wd_107 ⟨rfl, by decide +kernel, by decide +kernel, by decide +kernel⟩ dd_L_law_767, ?_⟩
  refine List.forall_mem_cons.mpr ⟨ok_icmp_eq hx hb dd_L_law_770 (by decide), ?_⟩
  refine List.forall_mem_cons.mpr ⟨ok_iconst hx hb dd_L_law_773 (by decide), ?_⟩
  refine List.forall_mem_cons.mpr ⟨ok_dead, ?_⟩
  exact fun _ h => absurd h List.not_mem_nil
set_option maxRecDepth 100000 in
theorem vc_L18_722 {L : Nat} {xs : Nat → Int32} {kd : Nat → Nat} {X : zX} (hX : ∀ (n pc : Nat) (ls : zLS) (st : List zV) (M : zM), zrun (tb_L18 L xs kd) cu_L18 n X pc ls st M → X pc ls st M) {i : Int32} {M : zM} (hk0 : kd 9 = 8) (hk1 : kd 0 = 1) (h : (vp_in (i + (1 : Int32)) L) ∧ (vp_in (i + (2 : Int32)) L) ∧ (vp_in (i + (3 : Int32)) L) ∧ (vp_in (i + (4 : Int32)) L) ∧ (KdX kd) ∧ ∃ s1 : St, (RpX kd M s1) ∧ ∀ v1 : Int32, (v1.toInt = (ev_seen s1 (xs (i + (1 : Int32)).toNatClampNeg).toInt (xs (i + (2 : Int32)).toNatClampNeg).toInt (xs (i + (3 : Int32)).toNatClampNeg).toInt (xs (i + (4 : Int32)).toNatClampNeg).toInt).1) → ∀ M1 : zM, (RpX kd M1 (ev_seen s1 (xs (i + (1 : Int32)).toNatClampNeg).toInt (xs (i + (2 : Int32)).toNatClampNeg).toInt (xs (i + (3 : Int32)).toNatClampNeg).toInt (xs (i + (4 : Int32)).toNatClampNeg).toInt).2) → (fr9 M M1) → (vp_in (i + (1 : Int32)) L) ∧ (vp_in (i + (2 : Int32)) L) ∧ (vp_in (i + (3 : Int32)) L) ∧ (vp_in (i + (4 : Int32)) L) ∧ ∃ s2 : St, (RpM M1 s2) ∧ ∀ v2 : Int32, (v2.toInt = (ev_seen s2 (xs (i + (1 : Int32)).toNatClampNeg).toInt (xs (i + (2 : Int32)).toNatClampNeg).toInt (xs (i + (3 : Int32)).toNatClampNeg).toInt (xs (i + (4 : Int32)).toNatClampNeg).toInt).1) → ∀ M2 : zM, (RpM M2 (ev_seen s2 (xs (i + (1 : Int32)).toNatClampNeg).toInt (xs (i + (2 : Int32)).toNatClampNeg).toInt (xs (i + (3 : Int32)).toNatClampNeg).toInt (xs (i + (4 : Int32)).toNatClampNeg).toInt).2) → (fr0 M1 M2) → ((v1 = v2) → X 1070 [some (zR 31 0), some (zR 0 0), some (zR 9 0), some (zI (i))] [] M2) ∧ ((¬ v1 = v2) → False)) : X 722 [some (zR 31 0), some (zR 0 0), some (zR 9 0), some (zI (i))] [] M := hX 48 722 _ [] M (show (31 = 31) ∧ (vp_in (i + (1 : Int32)) L) ∧ (31 = 31) ∧ (vp_in (i + (2 : Int32)) L) ∧ (31 = 31) ∧ (vp_in (i + (3 : Int32)) L) ∧ (31 = 31) ∧ (vp_in (i + (4 : Int32)) L) ∧ (kd 0 = 1) ∧ (KdX kd) ∧ ∃ s1 : St, (RpX kd M s1) ∧ ∀ v1 : Int32, (v1.toInt = (ev_seen s1 (xs (i + (1 : Int32)).toNatClampNeg).toInt (xs (i + (2 : Int32)).toNatClampNeg).toInt (xs (i + (3 : Int32)).toNatClampNeg).toInt (xs (i + (4 : Int32)).toNatClampNeg).toInt).1) → ∀ M1 : zM, (RpX kd M1 (ev_seen s1 (xs (i + (1 : Int32)).toNatClampNeg).toInt (xs (i + (2 : Int32)).toNatClampNeg).toInt (xs (i + (3 : Int32)).toNatClampNeg).toInt (xs (i + (4 : Int32)).toNatClampNeg).toInt).2) → (fr9 M M1) → (31 = 31) ∧ (vp_in (i + (1 : Int32)) L) ∧ (31 = 31) ∧ (vp_in (i + (2 : Int32)) L) ∧ (31 = 31) ∧ (vp_in (i + (3 : Int32)) L) ∧ (31 = 31) ∧ (vp_in (i + (4 : Int32)) L) ∧ (kd 9 = 8) ∧ ∃ s2 : St, (RpM M1 s2) ∧ ∀ v2 : Int32, (v2.toInt = (ev_seen s2 (xs (i + (1 : Int32)).toNatClampNeg).toInt (xs (i + (2 : Int32)).toNatClampNeg).toInt (xs (i + (3 : Int32)).toNatClampNeg).toInt (xs (i + (4 : Int32)).toNatClampNeg).toInt).1) → ∀ M2 : zM, (RpM M2 (ev_seen s2 (xs (i + (1 : Int32)).toNatClampNeg).toInt (xs (i + (2 : Int32)).toNatClampNeg).toInt (xs (i + (3 : Int32)).toNatClampNeg).toInt (xs (i + (4 : Int32)).toNatClampNeg).toInt).2) → (fr0 M1 M2) → ((v1 = v2) → X 1070 [some (zR 31 0), some (zR 0 0), some (zR 9 0), some (zI (i))] [] M2) ∧ ((¬ v1 = v2) → False) from ⟨rfl, ⟨h.1, have h := h.2; ⟨rfl, ⟨h.1, have h := h.2; ⟨rfl, ⟨h.1, have h := h.2; ⟨rfl, ⟨h.1, have h := h.2; ⟨hk1, ⟨h.1, have h := h.2; h.elim (fun s1 h => ⟨s1, ⟨h.1, have h := h.2; fun v1 => have h := h v1; fun q => have h := h q; fun M1 => have h := h M1; fun q => have h := h q; fun q => have h := h q; ⟨rfl, ⟨h.1, have h := h.2; ⟨rfl, ⟨h.1, have h := h.2; ⟨rfl, ⟨h.1, have h := h.2; ⟨rfl, ⟨h.1, have h := h.2; ⟨hk0, h.elim (fun s2 h => ⟨s2, ⟨h.1, have h := h.2; fun v2 => have h := h v2; fun q => have h := h q; fun M2 => have h := h M2; fun q => have h := h q; fun q => have h := h q; ⟨fun q => have h := h.1 q; h, fun q => have h := h.2 q; h⟩⟩⟩)⟩⟩⟩⟩⟩⟩⟩⟩⟩⟩⟩)⟩⟩⟩⟩⟩⟩⟩⟩⟩⟩)
theorem dd_L_law_775 : decode cL_law 775 = .ok (.aload_n 1, 1) := by decide +kernel
theorem dd_L_law_776 : decode cL_law 776 = .ok (.invokevirtual 94, 3) := by decide +kernel
theorem dd_L_law_779 : decode cL_law 779 = .ok (.aload_n 2, 1) := by decide +kernel
theorem dd_L_law_780 : decode cL_law 780 = .ok (.invokevirtual 97, 3) := by decide +kernel
theorem dd_L_law_783 : decode cL_law 783 = .ok (.if_icmp .eq 287, 3) := by decide +kernel
theorem dd_L_law_786 : decode cL_law 786 = .ok (.iconst 0, 1) := by decide +kernel
theorem dd_L_law_787 : decode cL_law 787 = .ok (.ireturn, 1) := by decide +kernel
def tb_L19 (L : Nat) (xs : Nat → Int32) (kd : Nat → Nat) : zTab := [(775, zt_aload 1 776), (776, zt_call kd sp_X7_forget 1 779), (779, zt_aload 2 780), (780, zt_call kd sp_X8_forget 1 783), (783, zt_icmp (fun x y => x = y) (fun x y => ¬ x = y) 1070 786), (786, zt_const (zI 0) 787), (787, (fun _ _ _ _ => False))]
def cu_L19 : zCut := [(1070, [])]
set_option maxRecDepth 20000 in
theorem tk_L19 {p : Program} {l : Launch} {e : Env} {R : Room} {s : State} {m : MethodId} {args : Array Value} {below : List Frame} {meth : Method} {c : Code} {D : va_G} {cy : Nat → ClassId} {A : Nat → Prop} {ad : Nat × Nat → Nat} {bl : zBl} {ce so : Nat} {Qm : State → Prop} {b L : Nat} {xs : Nat → Int32} (C0 : zCtx p l e R s m args below meth c D cy A ad bl 4 ce so Qm RL cL_law (60 + 1)) (hX : va_X b L xs s s.heap) (hbl : b < s.heap.size) (hbA : ¬ A b) (hb31 : ∀ o, ad (31, o) = b) : ∀ q ∈ tb_L19 L xs (zkd bl), zOk p l e R s m args below meth c D cy A ad bl 4 ce so Qm q.1 q.2 := by
  obtain ⟨hx, hb, hml, hown, hts, hK, hD, hA0, hN, hE, ⟨hR1, hR2⟩, hc1, hc2⟩ := id C0
  unfold tb_L19
  refine List.forall_mem_cons.mpr ⟨ok_aload_n hx hb rfl dd_L_law_775, ?_⟩
  refine List.forall_mem_cons.mpr ⟨ok_callV (n := 0) zc_X7 rv_X7_forget C0 (ms_X7_forget 60 (by decide)) (by decide) wd_703 wd_700 wd_701 wd_702 wd_100 ⟨rfl, by decide +kernel, by decide +kernel, by decide +kernel⟩ dd_L_law_776, ?_⟩
  refine List.forall_mem_cons.mpr ⟨ok_aload_n hx hb rfl dd_L_law_779, ?_⟩
  refine List.forall_mem_cons.mpr ⟨ok_callV (n := 0) zc_X8 rv_X8_forget C0 (ms_X8_forget 60 (by decide)) (by decide) wd_1106 wd_1103 wd_1104 wd_1105 wd_107 ⟨rfl, by decide +kernel, by decide +kernel, by decide +kernel⟩ dd_L_law_780, ?_⟩
  refine List.forall_mem_cons.mpr ⟨ok_icmp_eq hx hb dd_L_law_783 (by decide), ?_⟩
  refine List.forall_mem_cons.mpr ⟨ok_iconst hx hb dd_L_law_786 (by decide), ?_⟩
  refine List.forall_mem_cons.mpr ⟨ok_dead, ?_⟩
  exact fun _ h => absurd h List.not_mem_nil
set_option maxRecDepth 100000 in
theorem vc_L19_775 {L : Nat} {xs : Nat → Int32} {kd : Nat → Nat} {X : zX} (hX : ∀ (n pc : Nat) (ls : zLS) (st : List zV) (M : zM), zrun (tb_L19 L xs kd) cu_L19 n X pc ls st M → X pc ls st M) {i : Int32} {M : zM} (hk0 : kd 9 = 8) (hk1 : kd 0 = 1) (h : (KdX kd) ∧ ∃ s1 : St, (RpX kd M s1) ∧ ∀ v1 : Int32, (v1.toInt = (ev_forget s1).1) → ∀ M1 : zM, (RpX kd M1 (ev_forget s1).2) → (fr9 M M1) → ∃ s2 : St, (RpM M1 s2) ∧ ∀ v2 : Int32, (v2.toInt = (ev_forget s2).1) → ∀ M2 : zM, (RpM M2 (ev_forget s2).2) → (fr0 M1 M2) → ((v1 = v2) → X 1070 [some (zR 31 0), some (zR 0 0), some (zR 9 0), some (zI (i))] [] M2) ∧ ((¬ v1 = v2) → False)) : X 775 [some (zR 31 0), some (zR 0 0), some (zR 9 0), some (zI (i))] [] M := hX 8 775 _ [] M (show (kd 0 = 1) ∧ (KdX kd) ∧ ∃ s1 : St, (RpX kd M s1) ∧ ∀ v1 : Int32, (v1.toInt = (ev_forget s1).1) → ∀ M1 : zM, (RpX kd M1 (ev_forget s1).2) → (fr9 M M1) → (kd 9 = 8) ∧ ∃ s2 : St, (RpM M1 s2) ∧ ∀ v2 : Int32, (v2.toInt = (ev_forget s2).1) → ∀ M2 : zM, (RpM M2 (ev_forget s2).2) → (fr0 M1 M2) → ((v1 = v2) → X 1070 [some (zR 31 0), some (zR 0 0), some (zR 9 0), some (zI (i))] [] M2) ∧ ((¬ v1 = v2) → False) from ⟨hk1, ⟨h.1, have h := h.2; h.elim (fun s1 h => ⟨s1, ⟨h.1, have h := h.2; fun v1 => have h := h v1; fun q => have h := h q; fun M1 => have h := h M1; fun q => have h := h q; fun q => have h := h q; ⟨hk0, h.elim (fun s2 h => ⟨s2, ⟨h.1, have h := h.2; fun v2 => have h := h v2; fun q => have h := h q; fun M2 => have h := h M2; fun q => have h := h q; fun q => have h := h q; ⟨fun q => have h := h.1 q; h, fun q => have h := h.2 q; h⟩⟩⟩)⟩⟩⟩)⟩⟩)
theorem dd_L_law_788 : decode cL_law 788 = .ok (.aload_n 1, 1) := by decide +kernel
theorem dd_L_law_789 : decode cL_law 789 = .ok (.aload_n 0, 1) := by decide +kernel
theorem dd_L_law_790 : decode cL_law 790 = .ok (.iload_n 3, 1) := by decide +kernel
theorem dd_L_law_791 : decode cL_law 791 = .ok (.iconst 1, 1) := by decide +kernel
theorem dd_L_law_792 : decode cL_law 792 = .ok (.iadd, 1) := by decide +kernel
theorem dd_L_law_793 : decode cL_law 793 = .ok (.iaload, 1) := by decide +kernel
theorem dd_L_law_794 : decode cL_law 794 = .ok (.aload_n 0, 1) := by decide +kernel
theorem dd_L_law_795 : decode cL_law 795 = .ok (.iload_n 3, 1) := by decide +kernel
theorem dd_L_law_796 : decode cL_law 796 = .ok (.iconst 2, 1) := by decide +kernel
theorem dd_L_law_797 : decode cL_law 797 = .ok (.iadd, 1) := by decide +kernel
theorem dd_L_law_798 : decode cL_law 798 = .ok (.iaload, 1) := by decide +kernel
theorem dd_L_law_799 : decode cL_law 799 = .ok (.invokevirtual 98, 3) := by decide +kernel
theorem dd_L_law_802 : decode cL_law 802 = .ok (.aload_n 2, 1) := by decide +kernel
theorem dd_L_law_803 : decode cL_law 803 = .ok (.aload_n 0, 1) := by decide +kernel
theorem dd_L_law_804 : decode cL_law 804 = .ok (.iload_n 3, 1) := by decide +kernel
theorem dd_L_law_805 : decode cL_law 805 = .ok (.iconst 1, 1) := by decide +kernel
theorem dd_L_law_806 : decode cL_law 806 = .ok (.iadd, 1) := by decide +kernel
theorem dd_L_law_807 : decode cL_law 807 = .ok (.iaload, 1) := by decide +kernel
theorem dd_L_law_808 : decode cL_law 808 = .ok (.aload_n 0, 1) := by decide +kernel
theorem dd_L_law_809 : decode cL_law 809 = .ok (.iload_n 3, 1) := by decide +kernel
theorem dd_L_law_810 : decode cL_law 810 = .ok (.iconst 2, 1) := by decide +kernel
theorem dd_L_law_811 : decode cL_law 811 = .ok (.iadd, 1) := by decide +kernel
theorem dd_L_law_812 : decode cL_law 812 = .ok (.iaload, 1) := by decide +kernel
theorem dd_L_law_813 : decode cL_law 813 = .ok (.invokevirtual 101, 3) := by decide +kernel
theorem dd_L_law_816 : decode cL_law 816 = .ok (.if_icmp .eq 254, 3) := by decide +kernel
theorem dd_L_law_819 : decode cL_law 819 = .ok (.iconst 0, 1) := by decide +kernel
theorem dd_L_law_820 : decode cL_law 820 = .ok (.ireturn, 1) := by decide +kernel
def tb_L20 (L : Nat) (xs : Nat → Int32) (kd : Nat → Nat) : zTab := [(788, zt_aload 1 789), (789, zt_aload 0 790), (790, zt_iload 3 791), (791, zt_const (zI 1) 792), (792, zt_bin (fun x y => x + y) 793), (793, zt_sld L xs 794), (794, zt_aload 0 795), (795, zt_iload 3 796), (796, zt_const (zI 2) 797), (797, zt_bin (fun x y => x + y) 798), (798, zt_sld L xs 799), (799, zt_call kd sp_X7_is 3 802), (802, zt_aload 2 803), (803, zt_aload 0 804), (804, zt_iload 3 805), (805, zt_const (zI 1) 806), (806, zt_bin (fun x y => x + y) 807), (807, zt_sld L xs 808), (808, zt_aload 0 809), (809, zt_iload 3 810), (810, zt_const (zI 2) 811), (811, zt_bin (fun x y => x + y) 812), (812, zt_sld L xs 813), (813, zt_call kd sp_X8_is 3 816), (816, zt_icmp (fun x y => x = y) (fun x y => ¬ x = y) 1070 819), (819, zt_const (zI 0) 820), (820, (fun _ _ _ _ => False))]
def cu_L20 : zCut := [(1070, [])]
set_option maxRecDepth 20000 in
theorem tk_L20 {p : Program} {l : Launch} {e : Env} {R : Room} {s : State} {m : MethodId} {args : Array Value} {below : List Frame} {meth : Method} {c : Code} {D : va_G} {cy : Nat → ClassId} {A : Nat → Prop} {ad : Nat × Nat → Nat} {bl : zBl} {ce so : Nat} {Qm : State → Prop} {b L : Nat} {xs : Nat → Int32} (C0 : zCtx p l e R s m args below meth c D cy A ad bl 4 ce so Qm RL cL_law (60 + 1)) (hX : va_X b L xs s s.heap) (hbl : b < s.heap.size) (hbA : ¬ A b) (hb31 : ∀ o, ad (31, o) = b) : ∀ q ∈ tb_L20 L xs (zkd bl), zOk p l e R s m args below meth c D cy A ad bl 4 ce so Qm q.1 q.2 := by
  obtain ⟨hx, hb, hml, hown, hts, hK, hD, hA0, hN, hE, ⟨hR1, hR2⟩, hc1, hc2⟩ := id C0
  unfold tb_L20
  refine List.forall_mem_cons.mpr ⟨ok_aload_n hx hb rfl dd_L_law_788, ?_⟩
  refine List.forall_mem_cons.mpr ⟨ok_aload_n hx hb rfl dd_L_law_789, ?_⟩
  refine List.forall_mem_cons.mpr ⟨ok_iload_n hx hb rfl dd_L_law_790, ?_⟩
  refine List.forall_mem_cons.mpr ⟨ok_iconst hx hb dd_L_law_791 (by decide), ?_⟩
  refine List.forall_mem_cons.mpr ⟨ok_iadd hx hb dd_L_law_792, ?_⟩
  refine List.forall_mem_cons.mpr ⟨ok_sld hx hb hX hbl hbA hb31 dd_L_law_793, ?_⟩
  refine List.forall_mem_cons.mpr ⟨ok_aload_n hx hb rfl dd_L_law_794, ?_⟩
  refine List.forall_mem_cons.mpr ⟨ok_iload_n hx hb rfl dd_L_law_795, ?_⟩
  refine List.forall_mem_cons.mpr ⟨ok_iconst hx hb dd_L_law_796 (by decide), ?_⟩
  refine List.forall_mem_cons.mpr ⟨ok_iadd hx hb dd_L_law_797, ?_⟩
  refine List.forall_mem_cons.mpr ⟨ok_sld hx hb hX hbl hbA hb31 dd_L_law_798, ?_⟩
  refine List.forall_mem_cons.mpr ⟨ok_callV (n := 2) zc_X7 rv_X7_is C0 (ms_X7_is 60 (by decide)) (by decide) wd_711 wd_708 wd_709 wd_710 wd_100 ⟨rfl, by decide +kernel, by decide +kernel, by decide +kernel⟩ dd_L_law_799, ?_⟩
  refine List.forall_mem_cons.mpr ⟨ok_aload_n hx hb rfl dd_L_law_802, ?_⟩
  refine List.forall_mem_cons.mpr ⟨ok_aload_n hx hb rfl dd_L_law_803, ?_⟩
  refine List.forall_mem_cons.mpr ⟨ok_iload_n hx hb rfl dd_L_law_804, ?_⟩
  refine List.forall_mem_cons.mpr ⟨ok_iconst hx hb dd_L_law_805 (by decide), ?_⟩
  refine List.forall_mem_cons.mpr ⟨ok_iadd hx hb dd_L_law_806, ?_⟩
  refine List.forall_mem_cons.mpr ⟨ok_sld hx hb hX hbl hbA hb31 dd_L_law_807, ?_⟩
  refine List.forall_mem_cons.mpr ⟨ok_aload_n hx hb rfl dd_L_law_808, ?_⟩
  refine List.forall_mem_cons.mpr ⟨ok_iload_n hx hb rfl dd_L_law_809, ?_⟩
  refine List.forall_mem_cons.mpr ⟨ok_iconst hx hb dd_L_law_810 (by decide), ?_⟩
  refine List.forall_mem_cons.mpr ⟨ok_iadd hx hb dd_L_law_811, ?_⟩
  refine List.forall_mem_cons.mpr ⟨ok_sld hx hb hX hbl hbA hb31 dd_L_law_812, ?_⟩
  refine List.forall_mem_cons.mpr ⟨ok_callV (n := 2) zc_X8 rv_X8_is C0 (ms_X8_is 60 (by decide)) (by decide) wd_1110 wd_1107 wd_1108 wd_1109 wd_107 ⟨rfl, by decide +kernel, by decide +kernel, by decide +kernel⟩ dd_L_law_813, ?_⟩
  refine List.forall_mem_cons.mpr ⟨ok_icmp_eq hx hb dd_L_law_816 (by decide), ?_⟩
  refine List.forall_mem_cons.mpr ⟨ok_iconst hx hb dd_L_law_819 (by decide), ?_⟩
  refine List.forall_mem_cons.mpr ⟨ok_dead, ?_⟩
  exact fun _ h => absurd h List.not_mem_nil
set_option maxRecDepth 100000 in
theorem vc_L20_788 {L : Nat} {xs : Nat → Int32} {kd : Nat → Nat} {X : zX} (hX : ∀ (n pc : Nat) (ls : zLS) (st : List zV) (M : zM), zrun (tb_L20 L xs kd) cu_L20 n X pc ls st M → X pc ls st M) {i : Int32} {M : zM} (hk0 : kd 9 = 8) (hk1 : kd 0 = 1) (h : (vp_in (i + (1 : Int32)) L) ∧ (vp_in (i + (2 : Int32)) L) ∧ (KdX kd) ∧ ∃ s1 : St, (RpX kd M s1) ∧ ∀ v1 : Int32, (v1.toInt = (ev_is s1 (xs (i + (1 : Int32)).toNatClampNeg).toInt (xs (i + (2 : Int32)).toNatClampNeg).toInt).1) → ∀ M1 : zM, (RpX kd M1 (ev_is s1 (xs (i + (1 : Int32)).toNatClampNeg).toInt (xs (i + (2 : Int32)).toNatClampNeg).toInt).2) → (fr9 M M1) → (vp_in (i + (1 : Int32)) L) ∧ (vp_in (i + (2 : Int32)) L) ∧ ∃ s2 : St, (RpM M1 s2) ∧ ∀ v2 : Int32, (v2.toInt = (ev_is s2 (xs (i + (1 : Int32)).toNatClampNeg).toInt (xs (i + (2 : Int32)).toNatClampNeg).toInt).1) → ∀ M2 : zM, (RpM M2 (ev_is s2 (xs (i + (1 : Int32)).toNatClampNeg).toInt (xs (i + (2 : Int32)).toNatClampNeg).toInt).2) → (fr0 M1 M2) → ((v1 = v2) → X 1070 [some (zR 31 0), some (zR 0 0), some (zR 9 0), some (zI (i))] [] M2) ∧ ((¬ v1 = v2) → False)) : X 788 [some (zR 31 0), some (zR 0 0), some (zR 9 0), some (zI (i))] [] M := hX 28 788 _ [] M (show (31 = 31) ∧ (vp_in (i + (1 : Int32)) L) ∧ (31 = 31) ∧ (vp_in (i + (2 : Int32)) L) ∧ (kd 0 = 1) ∧ (KdX kd) ∧ ∃ s1 : St, (RpX kd M s1) ∧ ∀ v1 : Int32, (v1.toInt = (ev_is s1 (xs (i + (1 : Int32)).toNatClampNeg).toInt (xs (i + (2 : Int32)).toNatClampNeg).toInt).1) → ∀ M1 : zM, (RpX kd M1 (ev_is s1 (xs (i + (1 : Int32)).toNatClampNeg).toInt (xs (i + (2 : Int32)).toNatClampNeg).toInt).2) → (fr9 M M1) → (31 = 31) ∧ (vp_in (i + (1 : Int32)) L) ∧ (31 = 31) ∧ (vp_in (i + (2 : Int32)) L) ∧ (kd 9 = 8) ∧ ∃ s2 : St, (RpM M1 s2) ∧ ∀ v2 : Int32, (v2.toInt = (ev_is s2 (xs (i + (1 : Int32)).toNatClampNeg).toInt (xs (i + (2 : Int32)).toNatClampNeg).toInt).1) → ∀ M2 : zM, (RpM M2 (ev_is s2 (xs (i + (1 : Int32)).toNatClampNeg).toInt (xs (i + (2 : Int32)).toNatClampNeg).toInt).2) → (fr0 M1 M2) → ((v1 = v2) → X 1070 [some (zR 31 0), some (zR 0 0), some (zR 9 0), some (zI (i))] [] M2) ∧ ((¬ v1 = v2) → False) from ⟨rfl, ⟨h.1, have h := h.2; ⟨rfl, ⟨h.1, have h := h.2; ⟨hk1, ⟨h.1, have h := h.2; h.elim (fun s1 h => ⟨s1, ⟨h.1, have h := h.2; fun v1 => have h := h v1; fun q => have h := h q; fun M1 => have h := h M1; fun q => have h := h q; fun q => have h := h q; ⟨rfl, ⟨h.1, have h := h.2; ⟨rfl, ⟨h.1, have h := h.2; ⟨hk0, h.elim (fun s2 h => ⟨s2, ⟨h.1, have h := h.2; fun v2 => have h := h v2; fun q => have h := h q; fun M2 => have h := h M2; fun q => have h := h q; fun q => have h := h q; ⟨fun q => have h := h.1 q; h, fun q => have h := h.2 q; h⟩⟩⟩)⟩⟩⟩⟩⟩⟩⟩)⟩⟩⟩⟩⟩⟩)
theorem dd_L_law_821 : decode cL_law 821 = .ok (.aload_n 1, 1) := by decide +kernel
theorem dd_L_law_822 : decode cL_law 822 = .ok (.aload_n 0, 1) := by decide +kernel
theorem dd_L_law_823 : decode cL_law 823 = .ok (.iload_n 3, 1) := by decide +kernel
theorem dd_L_law_824 : decode cL_law 824 = .ok (.iconst 1, 1) := by decide +kernel
theorem dd_L_law_825 : decode cL_law 825 = .ok (.iadd, 1) := by decide +kernel
theorem dd_L_law_826 : decode cL_law 826 = .ok (.iaload, 1) := by decide +kernel
theorem dd_L_law_827 : decode cL_law 827 = .ok (.aload_n 0, 1) := by decide +kernel
theorem dd_L_law_828 : decode cL_law 828 = .ok (.iload_n 3, 1) := by decide +kernel
theorem dd_L_law_829 : decode cL_law 829 = .ok (.iconst 2, 1) := by decide +kernel
theorem dd_L_law_830 : decode cL_law 830 = .ok (.iadd, 1) := by decide +kernel
theorem dd_L_law_831 : decode cL_law 831 = .ok (.iaload, 1) := by decide +kernel
theorem dd_L_law_832 : decode cL_law 832 = .ok (.invokevirtual 102, 3) := by decide +kernel
theorem dd_L_law_835 : decode cL_law 835 = .ok (.aload_n 2, 1) := by decide +kernel
theorem dd_L_law_836 : decode cL_law 836 = .ok (.aload_n 0, 1) := by decide +kernel
theorem dd_L_law_837 : decode cL_law 837 = .ok (.iload_n 3, 1) := by decide +kernel
theorem dd_L_law_838 : decode cL_law 838 = .ok (.iconst 1, 1) := by decide +kernel
theorem dd_L_law_839 : decode cL_law 839 = .ok (.iadd, 1) := by decide +kernel
theorem dd_L_law_840 : decode cL_law 840 = .ok (.iaload, 1) := by decide +kernel
theorem dd_L_law_841 : decode cL_law 841 = .ok (.aload_n 0, 1) := by decide +kernel
theorem dd_L_law_842 : decode cL_law 842 = .ok (.iload_n 3, 1) := by decide +kernel
theorem dd_L_law_843 : decode cL_law 843 = .ok (.iconst 2, 1) := by decide +kernel
theorem dd_L_law_844 : decode cL_law 844 = .ok (.iadd, 1) := by decide +kernel
theorem dd_L_law_845 : decode cL_law 845 = .ok (.iaload, 1) := by decide +kernel
theorem dd_L_law_846 : decode cL_law 846 = .ok (.invokevirtual 105, 3) := by decide +kernel
theorem dd_L_law_849 : decode cL_law 849 = .ok (.if_icmp .eq 221, 3) := by decide +kernel
theorem dd_L_law_852 : decode cL_law 852 = .ok (.iconst 0, 1) := by decide +kernel
theorem dd_L_law_853 : decode cL_law 853 = .ok (.ireturn, 1) := by decide +kernel
def tb_L21 (L : Nat) (xs : Nat → Int32) (kd : Nat → Nat) : zTab := [(821, zt_aload 1 822), (822, zt_aload 0 823), (823, zt_iload 3 824), (824, zt_const (zI 1) 825), (825, zt_bin (fun x y => x + y) 826), (826, zt_sld L xs 827), (827, zt_aload 0 828), (828, zt_iload 3 829), (829, zt_const (zI 2) 830), (830, zt_bin (fun x y => x + y) 831), (831, zt_sld L xs 832), (832, zt_call kd sp_X7_look 3 835), (835, zt_aload 2 836), (836, zt_aload 0 837), (837, zt_iload 3 838), (838, zt_const (zI 1) 839), (839, zt_bin (fun x y => x + y) 840), (840, zt_sld L xs 841), (841, zt_aload 0 842), (842, zt_iload 3 843), (843, zt_const (zI 2) 844), (844, zt_bin (fun x y => x + y) 845), (845, zt_sld L xs 846), (846, zt_call kd sp_X8_look 3 849), (849, zt_icmp (fun x y => x = y) (fun x y => ¬ x = y) 1070 852), (852, zt_const (zI 0) 853), (853, (fun _ _ _ _ => False))]
def cu_L21 : zCut := [(1070, [])]
set_option maxRecDepth 20000 in
theorem tk_L21 {p : Program} {l : Launch} {e : Env} {R : Room} {s : State} {m : MethodId} {args : Array Value} {below : List Frame} {meth : Method} {c : Code} {D : va_G} {cy : Nat → ClassId} {A : Nat → Prop} {ad : Nat × Nat → Nat} {bl : zBl} {ce so : Nat} {Qm : State → Prop} {b L : Nat} {xs : Nat → Int32} (C0 : zCtx p l e R s m args below meth c D cy A ad bl 4 ce so Qm RL cL_law (60 + 1)) (hX : va_X b L xs s s.heap) (hbl : b < s.heap.size) (hbA : ¬ A b) (hb31 : ∀ o, ad (31, o) = b) : ∀ q ∈ tb_L21 L xs (zkd bl), zOk p l e R s m args below meth c D cy A ad bl 4 ce so Qm q.1 q.2 := by
  obtain ⟨hx, hb, hml, hown, hts, hK, hD, hA0, hN, hE, ⟨hR1, hR2⟩, hc1, hc2⟩ := id C0
  unfold tb_L21
  refine List.forall_mem_cons.mpr ⟨ok_aload_n hx hb rfl dd_L_law_821, ?_⟩
  refine List.forall_mem_cons.mpr ⟨ok_aload_n hx hb rfl dd_L_law_822, ?_⟩
  refine List.forall_mem_cons.mpr ⟨ok_iload_n hx hb rfl dd_L_law_823, ?_⟩
  refine List.forall_mem_cons.mpr ⟨ok_iconst hx hb dd_L_law_824 (by decide), ?_⟩
  refine List.forall_mem_cons.mpr ⟨ok_iadd hx hb dd_L_law_825, ?_⟩
  refine List.forall_mem_cons.mpr ⟨ok_sld hx hb hX hbl hbA hb31 dd_L_law_826, ?_⟩
  refine List.forall_mem_cons.mpr ⟨ok_aload_n hx hb rfl dd_L_law_827, ?_⟩
  refine List.forall_mem_cons.mpr ⟨ok_iload_n hx hb rfl dd_L_law_828, ?_⟩
  refine List.forall_mem_cons.mpr ⟨ok_iconst hx hb dd_L_law_829 (by decide), ?_⟩
  refine List.forall_mem_cons.mpr ⟨ok_iadd hx hb dd_L_law_830, ?_⟩
  refine List.forall_mem_cons.mpr ⟨ok_sld hx hb hX hbl hbA hb31 dd_L_law_831, ?_⟩
  refine List.forall_mem_cons.mpr ⟨ok_callV (n := 2) zc_X7 rv_X7_look C0 (ms_X7_look 60 (by decide)) (by decide) wd_724 wd_721 wd_722 wd_723 wd_100 ⟨rfl, by decide +kernel, by decide +kernel, by decide +kernel⟩ dd_L_law_832, ?_⟩
  refine List.forall_mem_cons.mpr ⟨ok_aload_n hx hb rfl dd_L_law_835, ?_⟩
  refine List.forall_mem_cons.mpr ⟨ok_aload_n hx hb rfl dd_L_law_836, ?_⟩
  refine List.forall_mem_cons.mpr ⟨ok_iload_n hx hb rfl dd_L_law_837, ?_⟩
  refine List.forall_mem_cons.mpr ⟨ok_iconst hx hb dd_L_law_838 (by decide), ?_⟩
  refine List.forall_mem_cons.mpr ⟨ok_iadd hx hb dd_L_law_839, ?_⟩
  refine List.forall_mem_cons.mpr ⟨ok_sld hx hb hX hbl hbA hb31 dd_L_law_840, ?_⟩
  refine List.forall_mem_cons.mpr ⟨ok_aload_n hx hb rfl dd_L_law_841, ?_⟩
  refine List.forall_mem_cons.mpr ⟨ok_iload_n hx hb rfl dd_L_law_842, ?_⟩
  refine List.forall_mem_cons.mpr ⟨ok_iconst hx hb dd_L_law_843 (by decide), ?_⟩
  refine List.forall_mem_cons.mpr ⟨ok_iadd hx hb dd_L_law_844, ?_⟩
  refine List.forall_mem_cons.mpr ⟨ok_sld hx hb hX hbl hbA hb31 dd_L_law_845, ?_⟩
  refine List.forall_mem_cons.mpr ⟨ok_callV (n := 2) zc_X8 rv_X8_look C0 (ms_X8_look 60 (by decide)) (by decide) wd_1122 wd_1119 wd_1120 wd_1121 wd_107 ⟨rfl, by decide +kernel, by decide +kernel, by decide +kernel⟩ dd_L_law_846, ?_⟩
  refine List.forall_mem_cons.mpr ⟨ok_icmp_eq hx hb dd_L_law_849 (by decide), ?_⟩
  refine List.forall_mem_cons.mpr ⟨ok_iconst hx hb dd_L_law_852 (by decide), ?_⟩
  refine List.forall_mem_cons.mpr ⟨ok_dead, ?_⟩
  exact fun _ h => absurd h List.not_mem_nil
set_option maxRecDepth 100000 in
theorem vc_L21_821 {L : Nat} {xs : Nat → Int32} {kd : Nat → Nat} {X : zX} (hX : ∀ (n pc : Nat) (ls : zLS) (st : List zV) (M : zM), zrun (tb_L21 L xs kd) cu_L21 n X pc ls st M → X pc ls st M) {i : Int32} {M : zM} (hk0 : kd 9 = 8) (hk1 : kd 0 = 1) (h : (vp_in (i + (1 : Int32)) L) ∧ (vp_in (i + (2 : Int32)) L) ∧ (KdX kd) ∧ ∃ s1 : St, (RpX kd M s1) ∧ ∀ v1 : Int32, (er_look s1 (xs (i + (1 : Int32)).toNatClampNeg).toInt (xs (i + (2 : Int32)).toNatClampNeg).toInt v1.toInt) → ∀ M1 : zM, (RpX kd M1 (es_ends s1 (xs (i + (1 : Int32)).toNatClampNeg).toInt (xs (i + (2 : Int32)).toNatClampNeg).toInt)) → (fr9 M M1) → (vp_in (i + (1 : Int32)) L) ∧ (vp_in (i + (2 : Int32)) L) ∧ ∃ s2 : St, (RpM M1 s2) ∧ ∀ v2 : Int32, (er_look s2 (xs (i + (1 : Int32)).toNatClampNeg).toInt (xs (i + (2 : Int32)).toNatClampNeg).toInt v2.toInt) → ∀ M2 : zM, (RpM M2 (es_ends s2 (xs (i + (1 : Int32)).toNatClampNeg).toInt (xs (i + (2 : Int32)).toNatClampNeg).toInt)) → (fr0 M1 M2) → ((v1 = v2) → X 1070 [some (zR 31 0), some (zR 0 0), some (zR 9 0), some (zI (i))] [] M2) ∧ ((¬ v1 = v2) → False)) : X 821 [some (zR 31 0), some (zR 0 0), some (zR 9 0), some (zI (i))] [] M := hX 28 821 _ [] M (show (31 = 31) ∧ (vp_in (i + (1 : Int32)) L) ∧ (31 = 31) ∧ (vp_in (i + (2 : Int32)) L) ∧ (kd 0 = 1) ∧ (KdX kd) ∧ ∃ s1 : St, (RpX kd M s1) ∧ ∀ v1 : Int32, (er_look s1 (xs (i + (1 : Int32)).toNatClampNeg).toInt (xs (i + (2 : Int32)).toNatClampNeg).toInt v1.toInt) → ∀ M1 : zM, (RpX kd M1 (es_ends s1 (xs (i + (1 : Int32)).toNatClampNeg).toInt (xs (i + (2 : Int32)).toNatClampNeg).toInt)) → (fr9 M M1) → (31 = 31) ∧ (vp_in (i + (1 : Int32)) L) ∧ (31 = 31) ∧ (vp_in (i + (2 : Int32)) L) ∧ (kd 9 = 8) ∧ ∃ s2 : St, (RpM M1 s2) ∧ ∀ v2 : Int32, (er_look s2 (xs (i + (1 : Int32)).toNatClampNeg).toInt (xs (i + (2 : Int32)).toNatClampNeg).toInt v2.toInt) → ∀ M2 : zM, (RpM M2 (es_ends s2 (xs (i + (1 : Int32)).toNatClampNeg).toInt (xs (i + (2 : Int32)).toNatClampNeg).toInt)) → (fr0 M1 M2) → ((v1 = v2) → X 1070 [some (zR 31 0), some (zR 0 0), some (zR 9 0), some (zI (i))] [] M2) ∧ ((¬ v1 = v2) → False) from ⟨rfl, ⟨h.1, have h := h.2; ⟨rfl, ⟨h.1, have h := h.2; ⟨hk1, ⟨h.1, have h := h.2; h.elim (fun s1 h => ⟨s1, ⟨h.1, have h := h.2; fun v1 => have h := h v1; fun q => have h := h q; fun M1 => have h := h M1; fun q => have h := h q; fun q => have h := h q; ⟨rfl, ⟨h.1, have h := h.2; ⟨rfl, ⟨h.1, have h := h.2; ⟨hk0, h.elim (fun s2 h => ⟨s2, ⟨h.1, have h := h.2; fun v2 => have h := h v2; fun q => have h := h q; fun M2 => have h := h M2; fun q => have h := h q; fun q => have h := h q; ⟨fun q => have h := h.1 q; h, fun q => have h := h.2 q; h⟩⟩⟩)⟩⟩⟩⟩⟩⟩⟩)⟩⟩⟩⟩⟩⟩)
theorem dd_L_law_854 : decode cL_law 854 = .ok (.aload_n 1, 1) := by decide +kernel
theorem dd_L_law_855 : decode cL_law 855 = .ok (.aload_n 0, 1) := by decide +kernel
theorem dd_L_law_856 : decode cL_law 856 = .ok (.iload_n 3, 1) := by decide +kernel
theorem dd_L_law_857 : decode cL_law 857 = .ok (.iconst 1, 1) := by decide +kernel
theorem dd_L_law_858 : decode cL_law 858 = .ok (.iadd, 1) := by decide +kernel
theorem dd_L_law_859 : decode cL_law 859 = .ok (.iaload, 1) := by decide +kernel
theorem dd_L_law_860 : decode cL_law 860 = .ok (.aload_n 0, 1) := by decide +kernel
theorem dd_L_law_861 : decode cL_law 861 = .ok (.iload_n 3, 1) := by decide +kernel
theorem dd_L_law_862 : decode cL_law 862 = .ok (.iconst 2, 1) := by decide +kernel
theorem dd_L_law_863 : decode cL_law 863 = .ok (.iadd, 1) := by decide +kernel
theorem dd_L_law_864 : decode cL_law 864 = .ok (.iaload, 1) := by decide +kernel
theorem dd_L_law_865 : decode cL_law 865 = .ok (.aload_n 0, 1) := by decide +kernel
theorem dd_L_law_866 : decode cL_law 866 = .ok (.iload_n 3, 1) := by decide +kernel
theorem dd_L_law_867 : decode cL_law 867 = .ok (.iconst 3, 1) := by decide +kernel
theorem dd_L_law_868 : decode cL_law 868 = .ok (.iadd, 1) := by decide +kernel
theorem dd_L_law_869 : decode cL_law 869 = .ok (.iaload, 1) := by decide +kernel
theorem dd_L_law_870 : decode cL_law 870 = .ok (.aload_n 0, 1) := by decide +kernel
theorem dd_L_law_871 : decode cL_law 871 = .ok (.iload_n 3, 1) := by decide +kernel
theorem dd_L_law_872 : decode cL_law 872 = .ok (.iconst 4, 1) := by decide +kernel
theorem dd_L_law_873 : decode cL_law 873 = .ok (.iadd, 1) := by decide +kernel
theorem dd_L_law_874 : decode cL_law 874 = .ok (.iaload, 1) := by decide +kernel
theorem dd_L_law_875 : decode cL_law 875 = .ok (.invokevirtual 106, 3) := by decide +kernel
theorem dd_L_law_878 : decode cL_law 878 = .ok (.aload_n 2, 1) := by decide +kernel
theorem dd_L_law_879 : decode cL_law 879 = .ok (.aload_n 0, 1) := by decide +kernel
theorem dd_L_law_880 : decode cL_law 880 = .ok (.iload_n 3, 1) := by decide +kernel
theorem dd_L_law_881 : decode cL_law 881 = .ok (.iconst 1, 1) := by decide +kernel
theorem dd_L_law_882 : decode cL_law 882 = .ok (.iadd, 1) := by decide +kernel
theorem dd_L_law_883 : decode cL_law 883 = .ok (.iaload, 1) := by decide +kernel
theorem dd_L_law_884 : decode cL_law 884 = .ok (.aload_n 0, 1) := by decide +kernel
theorem dd_L_law_885 : decode cL_law 885 = .ok (.iload_n 3, 1) := by decide +kernel
theorem dd_L_law_886 : decode cL_law 886 = .ok (.iconst 2, 1) := by decide +kernel
theorem dd_L_law_887 : decode cL_law 887 = .ok (.iadd, 1) := by decide +kernel
theorem dd_L_law_888 : decode cL_law 888 = .ok (.iaload, 1) := by decide +kernel
theorem dd_L_law_889 : decode cL_law 889 = .ok (.aload_n 0, 1) := by decide +kernel
theorem dd_L_law_890 : decode cL_law 890 = .ok (.iload_n 3, 1) := by decide +kernel
theorem dd_L_law_891 : decode cL_law 891 = .ok (.iconst 3, 1) := by decide +kernel
theorem dd_L_law_892 : decode cL_law 892 = .ok (.iadd, 1) := by decide +kernel
theorem dd_L_law_893 : decode cL_law 893 = .ok (.iaload, 1) := by decide +kernel
theorem dd_L_law_894 : decode cL_law 894 = .ok (.aload_n 0, 1) := by decide +kernel
theorem dd_L_law_895 : decode cL_law 895 = .ok (.iload_n 3, 1) := by decide +kernel
theorem dd_L_law_896 : decode cL_law 896 = .ok (.iconst 4, 1) := by decide +kernel
theorem dd_L_law_897 : decode cL_law 897 = .ok (.iadd, 1) := by decide +kernel
theorem dd_L_law_898 : decode cL_law 898 = .ok (.iaload, 1) := by decide +kernel
theorem dd_L_law_899 : decode cL_law 899 = .ok (.invokevirtual 109, 3) := by decide +kernel
theorem dd_L_law_902 : decode cL_law 902 = .ok (.if_icmp .eq 168, 3) := by decide +kernel
theorem dd_L_law_905 : decode cL_law 905 = .ok (.iconst 0, 1) := by decide +kernel
theorem dd_L_law_906 : decode cL_law 906 = .ok (.ireturn, 1) := by decide +kernel
def tb_L22 (L : Nat) (xs : Nat → Int32) (kd : Nat → Nat) : zTab := [(854, zt_aload 1 855), (855, zt_aload 0 856), (856, zt_iload 3 857), (857, zt_const (zI 1) 858), (858, zt_bin (fun x y => x + y) 859), (859, zt_sld L xs 860), (860, zt_aload 0 861), (861, zt_iload 3 862), (862, zt_const (zI 2) 863), (863, zt_bin (fun x y => x + y) 864), (864, zt_sld L xs 865), (865, zt_aload 0 866), (866, zt_iload 3 867), (867, zt_const (zI 3) 868), (868, zt_bin (fun x y => x + y) 869), (869, zt_sld L xs 870), (870, zt_aload 0 871), (871, zt_iload 3 872), (872, zt_const (zI 4) 873), (873, zt_bin (fun x y => x + y) 874), (874, zt_sld L xs 875), (875, zt_call kd sp_X7_thumbs 5 878), (878, zt_aload 2 879), (879, zt_aload 0 880), (880, zt_iload 3 881), (881, zt_const (zI 1) 882), (882, zt_bin (fun x y => x + y) 883), (883, zt_sld L xs 884), (884, zt_aload 0 885), (885, zt_iload 3 886), (886, zt_const (zI 2) 887), (887, zt_bin (fun x y => x + y) 888), (888, zt_sld L xs 889), (889, zt_aload 0 890), (890, zt_iload 3 891), (891, zt_const (zI 3) 892), (892, zt_bin (fun x y => x + y) 893), (893, zt_sld L xs 894), (894, zt_aload 0 895), (895, zt_iload 3 896), (896, zt_const (zI 4) 897), (897, zt_bin (fun x y => x + y) 898), (898, zt_sld L xs 899), (899, zt_call kd sp_X8_thumbs 5 902), (902, zt_icmp (fun x y => x = y) (fun x y => ¬ x = y) 1070 905), (905, zt_const (zI 0) 906), (906, (fun _ _ _ _ => False))]
def cu_L22 : zCut := [(1070, [])]
set_option maxRecDepth 20000 in
theorem tk_L22 {p : Program} {l : Launch} {e : Env} {R : Room} {s : State} {m : MethodId} {args : Array Value} {below : List Frame} {meth : Method} {c : Code} {D : va_G} {cy : Nat → ClassId} {A : Nat → Prop} {ad : Nat × Nat → Nat} {bl : zBl} {ce so : Nat} {Qm : State → Prop} {b L : Nat} {xs : Nat → Int32} (C0 : zCtx p l e R s m args below meth c D cy A ad bl 4 ce so Qm RL cL_law (60 + 1)) (hX : va_X b L xs s s.heap) (hbl : b < s.heap.size) (hbA : ¬ A b) (hb31 : ∀ o, ad (31, o) = b) : ∀ q ∈ tb_L22 L xs (zkd bl), zOk p l e R s m args below meth c D cy A ad bl 4 ce so Qm q.1 q.2 := by
  obtain ⟨hx, hb, hml, hown, hts, hK, hD, hA0, hN, hE, ⟨hR1, hR2⟩, hc1, hc2⟩ := id C0
  unfold tb_L22
  refine List.forall_mem_cons.mpr ⟨ok_aload_n hx hb rfl dd_L_law_854, ?_⟩
  refine List.forall_mem_cons.mpr ⟨ok_aload_n hx hb rfl dd_L_law_855, ?_⟩
  refine List.forall_mem_cons.mpr ⟨ok_iload_n hx hb rfl dd_L_law_856, ?_⟩
  refine List.forall_mem_cons.mpr ⟨ok_iconst hx hb dd_L_law_857 (by decide), ?_⟩
  refine List.forall_mem_cons.mpr ⟨ok_iadd hx hb dd_L_law_858, ?_⟩
  refine List.forall_mem_cons.mpr ⟨ok_sld hx hb hX hbl hbA hb31 dd_L_law_859, ?_⟩
  refine List.forall_mem_cons.mpr ⟨ok_aload_n hx hb rfl dd_L_law_860, ?_⟩
  refine List.forall_mem_cons.mpr ⟨ok_iload_n hx hb rfl dd_L_law_861, ?_⟩
  refine List.forall_mem_cons.mpr ⟨ok_iconst hx hb dd_L_law_862 (by decide), ?_⟩
  refine List.forall_mem_cons.mpr ⟨ok_iadd hx hb dd_L_law_863, ?_⟩
  refine List.forall_mem_cons.mpr ⟨ok_sld hx hb hX hbl hbA hb31 dd_L_law_864, ?_⟩
  refine List.forall_mem_cons.mpr ⟨ok_aload_n hx hb rfl dd_L_law_865, ?_⟩
  refine List.forall_mem_cons.mpr ⟨ok_iload_n hx hb rfl dd_L_law_866, ?_⟩
  refine List.forall_mem_cons.mpr ⟨ok_iconst hx hb dd_L_law_867 (by decide), ?_⟩
  refine List.forall_mem_cons.mpr ⟨ok_iadd hx hb dd_L_law_868, ?_⟩
  refine List.forall_mem_cons.mpr ⟨ok_sld hx hb hX hbl hbA hb31 dd_L_law_869, ?_⟩
  refine List.forall_mem_cons.mpr ⟨ok_aload_n hx hb rfl dd_L_law_870, ?_⟩
  refine List.forall_mem_cons.mpr ⟨ok_iload_n hx hb rfl dd_L_law_871, ?_⟩
  refine List.forall_mem_cons.mpr ⟨ok_iconst hx hb dd_L_law_872 (by decide), ?_⟩
  refine List.forall_mem_cons.mpr ⟨ok_iadd hx hb dd_L_law_873, ?_⟩
  refine List.forall_mem_cons.mpr ⟨ok_sld hx hb hX hbl hbA hb31 dd_L_law_874, ?_⟩
  refine List.forall_mem_cons.mpr ⟨ok_callV (n := 4) zc_X7 rv_X7_thumbs C0 (ms_X7_thumbs 60 (by decide)) (by decide) wd_738 wd_735 wd_736 wd_737 wd_100 ⟨rfl, by decide +kernel, by decide +kernel, by decide +kernel⟩ dd_L_law_875, ?_⟩
  refine List.forall_mem_cons.mpr ⟨ok_aload_n hx hb rfl dd_L_law_878, ?_⟩
  refine List.forall_mem_cons.mpr ⟨ok_aload_n hx hb rfl dd_L_law_879, ?_⟩
  refine List.forall_mem_cons.mpr ⟨ok_iload_n hx hb rfl dd_L_law_880, ?_⟩
  refine List.forall_mem_cons.mpr ⟨ok_iconst hx hb dd_L_law_881 (by decide), ?_⟩
  refine List.forall_mem_cons.mpr ⟨ok_iadd hx hb dd_L_law_882, ?_⟩
  refine List.forall_mem_cons.mpr ⟨ok_sld hx hb hX hbl hbA hb31 dd_L_law_883, ?_⟩
  refine List.forall_mem_cons.mpr ⟨ok_aload_n hx hb rfl dd_L_law_884, ?_⟩
  refine List.forall_mem_cons.mpr ⟨ok_iload_n hx hb rfl dd_L_law_885, ?_⟩
  refine List.forall_mem_cons.mpr ⟨ok_iconst hx hb dd_L_law_886 (by decide), ?_⟩
  refine List.forall_mem_cons.mpr ⟨ok_iadd hx hb dd_L_law_887, ?_⟩
  refine List.forall_mem_cons.mpr ⟨ok_sld hx hb hX hbl hbA hb31 dd_L_law_888, ?_⟩
  refine List.forall_mem_cons.mpr ⟨ok_aload_n hx hb rfl dd_L_law_889, ?_⟩
  refine List.forall_mem_cons.mpr ⟨ok_iload_n hx hb rfl dd_L_law_890, ?_⟩
  refine List.forall_mem_cons.mpr ⟨ok_iconst hx hb dd_L_law_891 (by decide), ?_⟩
  refine List.forall_mem_cons.mpr ⟨ok_iadd hx hb dd_L_law_892, ?_⟩
  refine List.forall_mem_cons.mpr ⟨ok_sld hx hb hX hbl hbA hb31 dd_L_law_893, ?_⟩
  refine List.forall_mem_cons.mpr ⟨ok_aload_n hx hb rfl dd_L_law_894, ?_⟩
  refine List.forall_mem_cons.mpr ⟨ok_iload_n hx hb rfl dd_L_law_895, ?_⟩
  refine List.forall_mem_cons.mpr ⟨ok_iconst hx hb dd_L_law_896 (by decide), ?_⟩
  refine List.forall_mem_cons.mpr ⟨ok_iadd hx hb dd_L_law_897, ?_⟩
  refine List.forall_mem_cons.mpr ⟨ok_sld hx hb hX hbl hbA hb31 dd_L_law_898, ?_⟩
  refine List.forall_mem_cons.mpr ⟨ok_callV (n := 4) zc_X8 rv_X8_thumbs C0 (ms_X8_thumbs 60 (by decide)) (by decide) wd_1130 wd_1127 wd_1128 wd_1129 wd_107 ⟨rfl, by decide +kernel, by decide +kernel, by decide +kernel⟩ dd_L_law_899, ?_⟩
  refine List.forall_mem_cons.mpr ⟨ok_icmp_eq hx hb dd_L_law_902 (by decide), ?_⟩
  refine List.forall_mem_cons.mpr ⟨ok_iconst hx hb dd_L_law_905 (by decide), ?_⟩
  refine List.forall_mem_cons.mpr ⟨ok_dead, ?_⟩
  exact fun _ h => absurd h List.not_mem_nil
set_option maxRecDepth 100000 in
theorem vc_L22_854 {L : Nat} {xs : Nat → Int32} {kd : Nat → Nat} {X : zX} (hX : ∀ (n pc : Nat) (ls : zLS) (st : List zV) (M : zM), zrun (tb_L22 L xs kd) cu_L22 n X pc ls st M → X pc ls st M) {i : Int32} {M : zM} (hk0 : kd 9 = 8) (hk1 : kd 0 = 1) (h : (vp_in (i + (1 : Int32)) L) ∧ (vp_in (i + (2 : Int32)) L) ∧ (vp_in (i + (3 : Int32)) L) ∧ (vp_in (i + (4 : Int32)) L) ∧ (KdX kd) ∧ ∃ s1 : St, (RpX kd M s1) ∧ ∀ v1 : Int32, (v1.toInt = (ev_thumbs s1 (xs (i + (1 : Int32)).toNatClampNeg).toInt (xs (i + (2 : Int32)).toNatClampNeg).toInt (xs (i + (3 : Int32)).toNatClampNeg).toInt (xs (i + (4 : Int32)).toNatClampNeg).toInt).1) → ∀ M1 : zM, (RpX kd M1 (ev_thumbs s1 (xs (i + (1 : Int32)).toNatClampNeg).toInt (xs (i + (2 : Int32)).toNatClampNeg).toInt (xs (i + (3 : Int32)).toNatClampNeg).toInt (xs (i + (4 : Int32)).toNatClampNeg).toInt).2) → (fr9 M M1) → (vp_in (i + (1 : Int32)) L) ∧ (vp_in (i + (2 : Int32)) L) ∧ (vp_in (i + (3 : Int32)) L) ∧ (vp_in (i + (4 : Int32)) L) ∧ ∃ s2 : St, (RpM M1 s2) ∧ ∀ v2 : Int32, (v2.toInt = (ev_thumbs s2 (xs (i + (1 : Int32)).toNatClampNeg).toInt (xs (i + (2 : Int32)).toNatClampNeg).toInt (xs (i + (3 : Int32)).toNatClampNeg).toInt (xs (i + (4 : Int32)).toNatClampNeg).toInt).1) → ∀ M2 : zM, (RpM M2 (ev_thumbs s2 (xs (i + (1 : Int32)).toNatClampNeg).toInt (xs (i + (2 : Int32)).toNatClampNeg).toInt (xs (i + (3 : Int32)).toNatClampNeg).toInt (xs (i + (4 : Int32)).toNatClampNeg).toInt).2) → (fr0 M1 M2) → ((v1 = v2) → X 1070 [some (zR 31 0), some (zR 0 0), some (zR 9 0), some (zI (i))] [] M2) ∧ ((¬ v1 = v2) → False)) : X 854 [some (zR 31 0), some (zR 0 0), some (zR 9 0), some (zI (i))] [] M := hX 48 854 _ [] M (show (31 = 31) ∧ (vp_in (i + (1 : Int32)) L) ∧ (31 = 31) ∧ (vp_in (i + (2 : Int32)) L) ∧ (31 = 31) ∧ (vp_in (i + (3 : Int32)) L) ∧ (31 = 31) ∧ (vp_in (i + (4 : Int32)) L) ∧ (kd 0 = 1) ∧ (KdX kd) ∧ ∃ s1 : St, (RpX kd M s1) ∧ ∀ v1 : Int32, (v1.toInt = (ev_thumbs s1 (xs (i + (1 : Int32)).toNatClampNeg).toInt (xs (i + (2 : Int32)).toNatClampNeg).toInt (xs (i + (3 : Int32)).toNatClampNeg).toInt (xs (i + (4 : Int32)).toNatClampNeg).toInt).1) → ∀ M1 : zM, (RpX kd M1 (ev_thumbs s1 (xs (i + (1 : Int32)).toNatClampNeg).toInt (xs (i + (2 : Int32)).toNatClampNeg).toInt (xs (i + (3 : Int32)).toNatClampNeg).toInt (xs (i + (4 : Int32)).toNatClampNeg).toInt).2) → (fr9 M M1) → (31 = 31) ∧ (vp_in (i + (1 : Int32)) L) ∧ (31 = 31) ∧ (vp_in (i + (2 : Int32)) L) ∧ (31 = 31) ∧ (vp_in (i + (3 : Int32)) L) ∧ (31 = 31) ∧ (vp_in (i + (4 : Int32)) L) ∧ (kd 9 = 8) ∧ ∃ s2 : St, (RpM M1 s2) ∧ ∀ v2 : Int32, (v2.toInt = (ev_thumbs s2 (xs (i + (1 : Int32)).toNatClampNeg).toInt (xs (i + (2 : Int32)).toNatClampNeg).toInt (xs (i + (3 : Int32)).toNatClampNeg).toInt (xs (i + (4 : Int32)).toNatClampNeg).toInt).1) → ∀ M2 : zM, (RpM M2 (ev_thumbs s2 (xs (i + (1 : Int32)).toNatClampNeg).toInt (xs (i + (2 : Int32)).toNatClampNeg).toInt (xs (i + (3 : Int32)).toNatClampNeg).toInt (xs (i + (4 : Int32)).toNatClampNeg).toInt).2) → (fr0 M1 M2) → ((v1 = v2) → X 1070 [some (zR 31 0), some (zR 0 0), some (zR 9 0), some (zI (i))] [] M2) ∧ ((¬ v1 = v2) → False) from ⟨rfl, ⟨h.1, have h := h.2; ⟨rfl, ⟨h.1, have h := h.2; ⟨rfl, ⟨h.1, have h := h.2; ⟨rfl, ⟨h.1, have h := h.2; ⟨hk1, ⟨h.1, have h := h.2; h.elim (fun s1 h => ⟨s1, ⟨h.1, have h := h.2; fun v1 => have h := h v1; fun q => have h := h q; fun M1 => have h := h M1; fun q => have h := h q; fun q => have h := h q; ⟨rfl, ⟨h.1, have h := h.2; ⟨rfl, ⟨h.1, have h := h.2; ⟨rfl, ⟨h.1, have h := h.2; ⟨rfl, ⟨h.1, have h := h.2; ⟨hk0, h.elim (fun s2 h => ⟨s2, ⟨h.1, have h := h.2; fun v2 => have h := h v2; fun q => have h := h q; fun M2 => have h := h M2; fun q => have h := h q; fun q => have h := h q; ⟨fun q => have h := h.1 q; h, fun q => have h := h.2 q; h⟩⟩⟩)⟩⟩⟩⟩⟩⟩⟩⟩⟩⟩⟩)⟩⟩⟩⟩⟩⟩⟩⟩⟩⟩)
