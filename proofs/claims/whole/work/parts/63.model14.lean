set_option maxRecDepth 20000 in
theorem mt_X8_manyBind {kd : Nat → Nat} {K : zK} {X : zX} (hX : ∀ (n pc : Nat) (ls : zLS) (st : List zV) (M : zM), zrun (tb_X8_manyBind kd K) [(4, [3]), (12, [])] n X pc ls st M → X pc ls st M)  (M : zM) (h : (kd 9 = 8) ∧ ∃ a : Sk, (RpF (M.1 9 5) a) ∧ (M.1 9 1 126 = M.1 9 5 126) ∧ ∀ v : Int32, (v.toInt = sk_bi a a.2) → K (some (zI v)) M) : X 0 [some (zR 9 0), none, none, none] [] M := by
  obtain ⟨hk, a, ha, he, hK⟩ := h
  have hy : (M.1 9 1 126).toInt = a.2 := by rw [he]; exact ha.2.2
  have hyb := ha.1.1
  have qb : ∀ (c n : Nat), 0 ≤ zsm (fun i => b2i (sk_bd a c i a.2)) n ∧ zsm (fun i => b2i (sk_bd a c i a.2)) n ≤ n := fun c n => by
    have := zsm_b (f := fun i => b2i (sk_bd a c i a.2)) (lo := 0) (hi := 1) (fun k => b2i_b _) n
    omega
  have nb : ∀ n : Nat, 0 ≤ zsm (fun c => zsm (fun i => b2i (sk_bd a c i a.2)) 4) n ∧ zsm (fun c => zsm (fun i => b2i (sk_bd a c i a.2)) 4) n ≤ n * 4 := fun n => by
    have := zsm_b (f := fun c => zsm (fun i => b2i (sk_bd a c i a.2)) 4) (lo := 0) (hi := 4) (fun k => qb k 4) n
    omega
  refine vc_X8_manyBind_0 hX (up (N := 6) (Q := fun j => ∀ n c : Int32, c.toInt = j → n.toInt = zsm (fun c => zsm (fun i => b2i (sk_bd a c i a.2)) 4) j → X 4 [some (zR 9 0), some (zI n), some (zI c), none] [] M) (fun n c hc hn => ?_) (fun j hj ih n c hc hn => ?_) 0 (by omega) 0 0 rfl rfl)
  · exact vc_X8_manyBind_4 hX ⟨fun _ => hK n hn, fun q => by simp only [Int32.lt_iff_toInt_lt, Int32.le_iff_toInt_le, ← Int32.toInt_inj, Int32.toInt_add, Int32.toInt_sub, Int32.toInt_mul, Int32.toInt_neg, Int.bmod, Int32.reduceToInt] at q; omega⟩
  · refine vc_X8_manyBind_4 hX ⟨fun q => by simp only [Int32.lt_iff_toInt_lt, Int32.le_iff_toInt_le, ← Int32.toInt_inj, Int32.toInt_add, Int32.toInt_sub, Int32.toInt_mul, Int32.toInt_neg, Int.bmod, Int32.reduceToInt] at q; omega, fun _ => ?_⟩
    have hcn : c.toNatClampNeg = j := by rw [z_cl]; omega
    have hlen := (ha.2.1 j hj).1
    have h4 := (ha.1.2 j hj).1
    have tl : zsm (fun i => b2i (sk_bd a j i a.2)) (a.1 j).length = zsm (fun i => b2i (sk_bd a j i a.2)) 4 := by
      refine (zsm_tl h4 (fun k k1 k2 => ?_)).symm
      have hno : sk_at a j k = none := sk_at_none (fun x => by
        have h' := x.2.2.2
        unfold sk_len at h'
        rw [Int.toNat_natCast] at h'
        omega)
      unfold sk_bd
      rw [hno]
      rfl
    have bl := nb j
    refine up (N := (a.1 j).length) (Q := fun i => ∀ n x : Int32, x.toInt = i → n.toInt = zsm (fun c => zsm (fun i => b2i (sk_bd a c i a.2)) 4) j + zsm (fun i => b2i (sk_bd a j i a.2)) i → X 12 [some (zR 9 0), some (zI n), some (zI c), some (zI x)] [] M) (fun n x hx hn => ?_) (fun i hi ih2 n x hx hn => ?_) 0 (by omega) n 0 rfl (by simpa [zsm] using hn)
    · refine vc_X8_manyBind_12 hX hk ?_
      rw [z0a, hcn]
      refine ⟨zin_of (n := 127) (by rw [hk]; rfl) (by omega) (by omega), fun _ => ih n (c + 1) (z_inc hc (by omega)) ?_, fun q => ?_⟩
      · rw [zsm_s, ← tl]; exact hn
      · rw [Int32.le_iff_toInt_le, hlen] at q; omega
    · refine vc_X8_manyBind_12 hX hk ?_
      rw [z0a, hcn, n126, hc, hx, hy]
      obtain ⟨l, hl⟩ := sk_at_of (a := a) (c := (j : Int)) (i := (i : Int)) ⟨by omega, by omega, by omega, by unfold sk_len; rw [Int.toNat_natCast]; omega⟩
      have b1 := qb j i
      refine ⟨zin_of (n := 127) (by rw [hk]; rfl) (by omega) (by omega), fun q => ?_, fun _ => ⟨zin_of (n := 915) (by rw [hk]; rfl) (by decide) (by decide), a, ha, by rw [hl]; simp, by omega, fun v1 h1 => ⟨fun q => ih2 _ (x + 1) (z_inc hx (by omega)) ?_, fun q => ih2 _ (x + 1) (z_inc hx (by omega)) ?_⟩⟩⟩
      · rw [Int32.le_iff_toInt_le, hlen] at q; omega
      · rw [h1, zp_0] at q
        rw [zsm_s, show b2i (sk_bd a j i a.2) = 0 by simp [b2i, q]]
        simp only [Int32.lt_iff_toInt_lt, Int32.le_iff_toInt_le, ← Int32.toInt_inj, Int32.toInt_add, Int32.toInt_sub, Int32.toInt_mul, Int32.toInt_neg, Int.bmod, Int32.reduceToInt]
        omega
      · rw [h1, zp_n] at q
        rw [zsm_s, show b2i (sk_bd a j i a.2) = 1 by simp [b2i, q]]
        simp only [Int32.lt_iff_toInt_lt, Int32.le_iff_toInt_le, ← Int32.toInt_inj, Int32.toInt_add, Int32.toInt_sub, Int32.toInt_mul, Int32.toInt_neg, Int.bmod, Int32.reduceToInt]
        omega
theorem ms_X8_manyBind : zMS 6 yX8_manyBind cX8_manyBind 4 (some .int) sp_X8_manyBind := by
  intro d hd
  obtain ⟨d', rfl⟩ : ∃ d', d = d' + 6 := ⟨d - 6, by omega⟩
  refine zmethod (tab := tb_X8_manyBind) (cut := [(4, [3]), (12, [])]) (by decide) (tk_X8_manyBind d' ms_X8_bindsNow) ?_
  intro kd as M K h
  unfold sp_X8_manyBind at h
  split at h
  · skip
    exact ⟨Nat.le_of_ble_eq_true rfl, fun X hX => mt_X8_manyBind hX  M h⟩
  · exact h.elim

