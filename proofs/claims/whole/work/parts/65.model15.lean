set_option maxRecDepth 20000 in
theorem mt_X8_counted {kd : Nat → Nat} {K : zK} {X : zX} (hX : ∀ (n pc : Nat) (ls : zLS) (st : List zV) (M : zM), zrun (tb_X8_counted kd K) [] n X pc ls st M → X pc ls st M) (w : Int32) (M : zM) (h : (kd 9 = 8) ∧ ∃ s : St, (RpM M s) ∧ (0 ≤ w.toInt ∧ w.toInt ≤ 6) ∧ ∀ v : Int32, (v.toInt = (ev_count s w.toInt).1) → ∀ M' : zM, (RpM M' s) → (fr0 M M') → K (some (zI v)) M') : X 0 [some (zR 9 0), some (zI (w))] [] M := by
  obtain ⟨hk, s, hR, hw, hK⟩ := h
  have iw : ∀ n : Int32, ∀ z : Int, n.toInt = z → (w = n ↔ w.toInt = z) := fun n z e => by rw [← Int32.toInt_inj, e]
  have zz : ∀ x : Int32, 0 ≤ x.toInt → x.toInt < 915 → zin (kd 9) 1 0 x := fun x h0 h1 => zin_of (n := 915) (by rw [hk]; rfl) h0 h1
  refine vc_X8_counted_0 hX hk (fun f1 hf1 M1 e1 => ?_)
  have hs := hR.sc (by decide) e1
  have ha : RpF (M1.1 9 5) s.1.1 := by rw [e1, zmw_at]; exact hR.1.1.congr hf1
  have h1 := hs.1.1
  have hyb := hR.1.1.1.1
  have hy : (M1.1 9 1 126).toInt = s.1.1.2 := h1.1.2.2
  have h5 : M1.1 9 1 126 = M1.1 9 5 126 := Int32.toInt_inj.mp (by rw [hy]; exact ha.2.2.symm)
  rw [n126, n127, n128, hy]
  refine ⟨fun q0 => ⟨by decide, _, h1.1, fun v h => hK v ?_ M1 hs.1 hs.2⟩, fun q0 => ⟨fun q1 => ⟨zz _ (by decide) (by decide), hK _ ?_ M1 hs.1 hs.2⟩, fun q1 => ⟨fun q2 => ⟨_, ha, h5, fun v h => hK v ?_ M1 hs.1 hs.2⟩, fun q2 => ⟨fun q3 => ⟨zz _ (by decide) (by decide), _, ha, by omega, fun v h f2 hf2 M2 e2 => ?_⟩, fun q3 => ⟨fun q4 => ⟨zz _ (by decide) (by decide), hK _ ?_ M1 hs.1 hs.2⟩, fun q4 => ⟨fun q5 => ⟨zz _ (by decide) (by decide), hK _ ?_ M1 hs.1 hs.2⟩, fun q5 => hK _ ?_ M1 hs.1 hs.2⟩⟩⟩⟩⟩⟩
  · rw [iw 0 0 rfl] at q0
    unfold ev_count; rw [if_pos q0]; exact h
  · rw [iw 0 0 rfl] at q0; rw [iw 1 1 rfl] at q1
    unfold ev_count; rw [if_neg q0, if_pos q1]; exact hy
  · rw [iw 0 0 rfl] at q0; rw [iw 1 1 rfl] at q1; rw [iw 2 2 rfl] at q2
    unfold ev_count; rw [if_neg q0, if_neg q1, if_pos q2]; exact h
  · rw [iw 0 0 rfl] at q0; rw [iw 1 1 rfl] at q1; rw [iw 2 2 rfl] at q2; rw [iw 3 3 rfl] at q3
    have h2 := hs.1.s0 (hf2 16 (by decide) (by decide)) e2
    refine hK v ?_ M2 h2.1 (hs.2.tr h2.2)
    unfold ev_count; rw [if_neg q0, if_neg q1, if_neg q2, if_pos q3]; exact h
  · rw [iw 0 0 rfl] at q0; rw [iw 1 1 rfl] at q1; rw [iw 2 2 rfl] at q2; rw [iw 3 3 rfl] at q3; rw [iw 4 4 rfl] at q4
    unfold ev_count; rw [if_neg q0, if_neg q1, if_neg q2, if_neg q3, if_pos q4]; exact h1.2.1.2.1
  · rw [iw 0 0 rfl] at q0; rw [iw 1 1 rfl] at q1; rw [iw 2 2 rfl] at q2; rw [iw 3 3 rfl] at q3; rw [iw 4 4 rfl] at q4; rw [iw 5 5 rfl] at q5
    unfold ev_count; rw [if_neg q0, if_neg q1, if_neg q2, if_neg q3, if_neg q4, if_pos q5]; exact h1.2.2.2.1
  · rw [iw 0 0 rfl] at q0; rw [iw 1 1 rfl] at q1; rw [iw 2 2 rfl] at q2; rw [iw 3 3 rfl] at q3; rw [iw 4 4 rfl] at q4; rw [iw 5 5 rfl] at q5
    unfold ev_count; rw [if_neg q0, if_neg q1, if_neg q2, if_neg q3, if_neg q4, if_neg q5, if_pos (by omega)]; exact hs.1.2.2.1.2.1
theorem ms_X8_counted : zMS 9 yX8_counted cX8_counted 2 (some .int) sp_X8_counted := by
  intro d hd
  obtain ⟨d', rfl⟩ : ∃ d', d = d' + 9 := ⟨d - 9, by omega⟩
  refine zmethod (tab := tb_X8_counted) (cut := []) (by decide) (tk_X8_counted d' ms_X8_layHand ms_X8_allLayers ms_X8_manyBind ms_X8_quarrels) ?_
  intro kd as M K h
  unfold sp_X8_counted at h
  split at h
  · rename_i w
    exact ⟨Nat.le_of_ble_eq_true rfl, fun X hX => mt_X8_counted hX w M h⟩
  · exact h.elim

set_option maxRecDepth 20000 in
theorem mt_X8_count {kd : Nat → Nat} {K : zK} {X : zX} (hX : ∀ (n pc : Nat) (ls : zLS) (st : List zV) (M : zM), zrun (tb_X8_count kd K) [] n X pc ls st M → X pc ls st M) (w : Int32) (M : zM) (h : (kd 9 = 8) ∧ ∃ s : St, (RpM M s) ∧ ∀ v : Int32, (v.toInt = (ev_count s w.toInt).1) → ∀ M' : zM, (RpM M' (ev_count s w.toInt).2) → (fr0 M M') → K (some (zI v)) M') : X 0 [some (zR 9 0), some (zI (w))] [] M := by
  obtain ⟨hk, s, hR, hK⟩ := h
  refine vc_X8_count_0 hX hk (fun v1 h1 => ?_)
  rw [Int32.toInt_toInt64] at h1
  have h1' : v1 = zp (0 ≤ w.toInt ∧ w.toInt ≤ 6) := h1
  refine ⟨fun q v2 h2 M2 e2 => ?_, fun q => ?_⟩
  · rw [h1', zp_0] at q
    refine mrf hR hK 0 (-2) (by decide) (by rw [h2]; rfl) ?_ e2
    unfold ev_count
    rw [if_neg (by omega), if_neg (by omega), if_neg (by omega), if_neg (by omega), if_neg (by omega), if_neg (by omega), if_neg (by omega)]
  · rw [h1', zp_n] at q
    obtain ⟨n, hn⟩ : ∃ n : Nat, w.toInt = n := ⟨w.toInt.toNat, by omega⟩
    have hev : (ev_count s w.toInt).2 = s := by rw [hn]; exact evc s (by omega)
    exact ⟨s, hR, q, fun v3 h3 M3 g3 f3 => hK v3 h3 M3 (by rw [hev]; exact g3) f3⟩
theorem ms_X8_count : zMS 10 yX8_count cX8_count 2 (some .int) sp_X8_count := by
  intro d hd
  obtain ⟨d', rfl⟩ : ∃ d', d = d' + 10 := ⟨d - 10, by omega⟩
  refine zmethod (tab := tb_X8_count) (cut := []) (by decide) (tk_X8_count d' ms_X8_in ms_X8_counted ms_X8_bad) ?_
  intro kd as M K h
  unfold sp_X8_count at h
  split at h
  · rename_i w
    exact ⟨Nat.le_of_ble_eq_true rfl, fun X hX => mt_X8_count hX w M h⟩
  · exact h.elim

