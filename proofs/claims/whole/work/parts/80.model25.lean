theorem L_rm {q m : Int64} {d z : Int} (hq : q.toInt = d) (hd : 0 ≤ d) (hm : m.toInt = z) (hz : 0 < z ∧ z < 2147483648) : (q - q / m * m).toInt = d % z ∧ ((q - q / m * m).toInt32).toInt = d % z := by
  have h1 : (q - q / m * m).toInt = d % z := by rw [L_rem (by omega) (by omega), hq, hm]
  have h2 := Int.emod_nonneg d (show z ≠ 0 by omega)
  have h3 := Int.emod_lt_of_pos d hz.1
  exact ⟨h1, by rw [L_i32 (by omega) (by omega), h1]⟩
set_option maxRecDepth 20000 in
theorem mt_X8_centuries {kd : Nat → Nat} {K : zK} {X : zX} (hX : ∀ (n pc : Nat) (ls : zLS) (st : List zV) (M : zM), zrun (tb_X8_centuries kd K) [(41, [6, 7, 8, 9]), (61, [6, 7, 8, 9]), (77, [9]), (151, [6, 7, 8, 9])] n X pc ls st M → X pc ls st M) (x : Int32) (n : Int32) (M : zM) (h : (kd 9 = 8) ∧ ∃ s : St, (RpM M s) ∧ ∀ v : Int32, (v.toInt = (ev_centuries s x.toInt n.toInt).1) → ∀ M' : zM, (RpM M' (ev_centuries s x.toInt n.toInt).2) → (fr0 M M') → K (some (zI v)) M') : X 0 [some (zR 9 0), some (zI (x)), some (zI (n)), none, none, none, none, none, none, none] [] M := by
  obtain ⟨hk, s, hR, hK⟩ := h
  have bad : ∀ (v : Int32) (M2 : zM), ¬ (inn x.toInt 0 999999 ∧ inn n.toInt 0 30) → v = (-2 : Int32) → M2 = zmw M 9 4 (upd (M.1 9 4) 0 (M.1 9 4 0 + 1)) → K (some (zI v)) M2 := fun v M2 q hv e => mrf hR hK 0 (-2) (by decide) (by rw [hv]; rfl) (by unfold ev_centuries; rw [if_neg q]) e
  refine vc_X8_centuries_0 hX hk (fun v1 h1 => ⟨fun q v2 h2 M2 e2 => bad v2 M2 ?_ h2 e2, fun q1 v3 h3 => ⟨fun q3 f4 hf4 M4 e4 => ?_, fun q v9 h9 M9 e9 => bad v9 M9 ?_ h9 e9⟩⟩)
  · rw [h1, Int32.toInt_toInt64, zp_0] at q; exact fun x => q x.1
  · rw [h1, Int32.toInt_toInt64, zp_n] at q1
    rw [h3, Int32.toInt_toInt64, zp_n] at q3
    have q1' : 0 ≤ x.toInt ∧ x.toInt ≤ 999999 := q1
    have q3' : 0 ≤ n.toInt ∧ n.toInt ≤ 30 := q3
    have hev : ev_centuries s x.toInt n.toInt = (sk_qu (cny n.toInt.toNat x.toInt s.1.1) (cny n.toInt.toNat x.toInt s.1.1).2, s) := by unfold ev_centuries; rw [if_pos ⟨q1', q3'⟩]
    rw [hev] at hK
    obtain ⟨m, hm⟩ : ∃ m : Nat, n.toInt = m := ⟨n.toInt.toNat, by omega⟩
    have hmt : n.toInt.toNat = m := by omega
    rw [hmt] at hK
    refine up (N := m) (Q := fun j => ∀ (M1 : zM) (p : Int64) (k : Int32) (a : Sk), scr M M1 → k.toInt = j → (0 ≤ p.toInt ∧ p.toInt < 2147483648) → RpF (M1.1 9 5) a → cny (m - j) p.toInt a = cny m x.toInt s.1.1 → X 41 [some (zR 9 0), some (zI x), some (zI n), some (zL p), none, some (zI k), none, none, none, none] [] M1) (fun M1 p k a s1 hk1 hp ha hc => ?_) (fun j hj ih M1 p k a s1 hk1 hp ha hc => ?_) 0 (by omega) M4 _ 0 s.1.1 (scr_mw (by decide) e4) rfl (by rw [Int32.toInt_toInt64]; omega) (by rw [e4, zmw_at]; exact hR.1.1.congr hf4) (by rw [Int32.toInt_toInt64]; rfl)
    · have hc' : a = cny m x.toInt s.1.1 := by rw [← hc, Nat.sub_self]; rfl
      have hy : (M1.1 9 5 126).toInt = a.2 := ha.2.2
      have hyb := ha.1.1
      refine vc_X8_centuries_41 hX hk ⟨fun _ => ?_, fun q => by simp only [Int32.lt_iff_toInt_lt, Int32.le_iff_toInt_le, ← Int32.toInt_inj, Int32.toInt_add, Int32.toInt_sub, Int32.toInt_mul, Int32.toInt_neg, Int.bmod, Int32.reduceToInt] at q; omega⟩
      rw [n126, hy]
      refine ⟨zin_of (n := 127) (by rw [hk]; rfl) (by decide) (by decide), a, ha, by omega, fun v1 h1 f1 hf1 M2 e2 => ?_⟩
      have R2 := hR.scrt (s1.tr (scr_0 (hf1 16 (by decide) (by decide)) e2))
      exact hK v1 (by rw [h1, hc']) M2 R2.1 R2.2
    · refine vc_X8_centuries_41 hX hk ⟨fun q => by simp only [Int32.lt_iff_toInt_lt, Int32.le_iff_toInt_le, ← Int32.toInt_inj, Int32.toInt_add, Int32.toInt_sub, Int32.toInt_mul, Int32.toInt_neg, Int.bmod, Int32.reduceToInt] at q; omega, fun _ => ?_⟩
      have e1 : (p * (1103515245 : Int64) + (12345 : Int64)).toInt = p.toInt * 1103515245 + 12345 := by
        have hA : (1103515245 : Int64).toInt = 1103515245 := rfl
        have hB : (12345 : Int64).toInt = 12345 := rfl
        have hmul : (p * (1103515245 : Int64)).toInt = p.toInt * 1103515245 := L_mul (by rw [hA]; omega) (by rw [hA]; omega)
        rw [L_add (by rw [hmul, hB]; omega) (by rw [hmul, hB]; omega), hmul, hB]
      generalize p * (1103515245 : Int64) + (12345 : Int64) = y at e1
      have e2 : (y - y / (2147483648 : Int64) * (2147483648 : Int64)).toInt = (p.toInt * 1103515245 + 12345) % 2147483648 := by
        rw [L_rem (by omega) (by decide), e1]; rfl
      generalize y - y / (2147483648 : Int64) * (2147483648 : Int64) = z at e2
      obtain ⟨w, hw⟩ : ∃ w, (p.toInt * 1103515245 + 12345) % 2147483648 = w := ⟨_, rfl⟩
      have hwb : 0 ≤ w ∧ w < 2147483648 := by omega
      have hstep : cny (m - j) p.toInt a = cny (m - (j + 1)) w (sk_yr (sk_ch a (w / 65536)) (w / 1048576 % 50)) := by
        rw [show m - j = (m - (j + 1)) + 1 by omega, ← hw]
        rfl
      rw [hw] at e2
      rw [hstep] at hc
      have hd : (z / (65536 : Int64)).toInt = w / 65536 := by rw [L_div (by omega) (by decide), e2]; rfl
      have hdb : 0 ≤ w / 65536 := by omega
      refine vc_X8_centuries_61 hX ?_
      have hc6 := (L_rm (m := 6) (z := 6) hd hdb rfl (by decide)).2
      generalize ((z / (65536 : Int64)) - (z / (65536 : Int64)) / (6 : Int64) * (6 : Int64)).toInt32 = c at hc6
      generalize z / (65536 : Int64) = q at hd
      obtain ⟨d, hdd⟩ : ∃ d, w / 65536 = d := ⟨_, rfl⟩
      rw [hdd] at hd hdb hc6 hc
      have hC : isC c.toInt := by omega
      have h7 := L_rm (m := 7) (z := 7) hd hdb rfl (by decide)
      have h76 := (L_rm (m := 6) (z := 6) h7.1 (by omega) rfl (by decide)).2
      have h5 := (L_rm (m := 5) (z := 5) hd hdb rfl (by decide)).2
      have h2 := (L_rm (m := 2) (z := 2) hd hdb rfl (by decide)).2
      have ch : sk_ch a d = if sk_canR a c.toInt then sk_rub a c.toInt else sk_wr a c.toInt (d % 7 % 6) (d % 5) (d % 2) := by
        unfold sk_ch
        rw [hc6]
        have : (if d % 7 = 6 then 0 else d % 7) = d % 7 % 6 := by split <;> omega
        rw [this]
      have a151 : ∀ (M2 : zM) (a' : Sk), scr M M2 → RpF (M2.1 9 5) a' → a' = sk_ch a d → X 151 [some (zR 9 0), some (zI x), some (zI n), some (zL z), none, some (zI k), none, none, none, none] [] M2 := by
        intro M2 a' s2 ha2 hca
        have hq : (z / (1048576 : Int64)).toInt = w / 1048576 := by rw [L_div (by omega) (by decide), e2]; rfl
        have h50 := (L_rm (m := 50) (z := 50) hq (by omega) rfl (by decide)).2
        refine vc_X8_centuries_151 hX hk ?_
        rw [h50]
        refine ⟨by decide, a', ha2, by omega, fun f1 hf1 _ M3 e3 => ih M3 z (k + 1) (sk_yr a' (w / 1048576 % 50)) (s2.tr (scr_mw (by decide) e3)) (z_inc hk1 (by omega)) (by omega) (by rw [e3, zmw_at]; exact hf1) ?_⟩
        rw [e2, hca]
        exact hc
      refine vc_X8_centuries_77 hX hk ⟨by decide, a, ha, hC, fun v1 h1 => ⟨fun q1 => ⟨by decide, a, ha, hC, fun v2 hv2 => ⟨fun q2 => a151 M1 a s1 ha ?_, fun q2 => ?_⟩⟩, fun q1 => ?_⟩⟩
      · rw [h1, zp_0] at q1
        rw [hv2, zp_0, sk_canW_iff] at q2
        rw [ch, if_neg q1]
        unfold sk_wr
        rw [if_neg (fun h => q2 ⟨hC, by simpa using q1, h⟩)]
      · rw [h1, zp_0] at q1
        rw [hv2, zp_n] at q2
        have hW := sk_canW_iff.mp q2
        rw [h76, h5, h2]
        refine ⟨by decide, a, ha, hC, hW.2.1, hW.2.2, by omega, by omega, by omega, fun v3 h3 f3 hf3 _ M3 e3 => a151 M3 (sk_wr a c.toInt (d % 7 % 6) (d % 5) (d % 2)) (s1.tr (scr_mw (by decide) e3)) (by rw [e3, zmw_at]; exact hf3) ?_⟩
        rw [ch, if_neg q1]
      · rw [h1, zp_n] at q1
        obtain ⟨l, hl, _⟩ := sk_canR_iff.mp q1
        refine ⟨by decide, a, ha, l, hl, fun v4 h4 f4 hf4 _ M4 e4 => a151 M4 (sk_rub a c.toInt) (s1.tr (scr_mw (by decide) e4)) (by rw [e4, zmw_at]; exact hf4) ?_⟩
        rw [ch, if_pos q1]
  · rw [h3, Int32.toInt_toInt64, zp_0] at q; exact fun x => q x.2
theorem ms_X8_centuries : zMS 9 yX8_centuries cX8_centuries 10 (some .int) sp_X8_centuries := by
  intro d hd
  obtain ⟨d', rfl⟩ : ∃ d', d = d' + 9 := ⟨d - 9, by omega⟩
  refine zmethod (tab := tb_X8_centuries) (cut := [(41, [6, 7, 8, 9]), (61, [6, 7, 8, 9]), (77, [9]), (151, [6, 7, 8, 9])]) (by decide) (tk_X8_centuries d' ms_X8_in ms_X8_bad ms_X8_layHand ms_X8_mayRub ms_X8_goRub ms_X8_mayWrite ms_X8_goWrite ms_X8_goYears ms_X8_quarrels) ?_
  intro kd as M K h
  unfold sp_X8_centuries at h
  split at h
  · rename_i x n
    exact ⟨Nat.le_of_ble_eq_true rfl, fun X hX => mt_X8_centuries hX x n M h⟩
  · exact h.elim

