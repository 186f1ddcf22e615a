theorem z_sh5 : ∀ k, k < 5 → ((1 : Int32) <<< (nI k &&& 31)).toInt = (2 : Int) ^ k := by decide +kernel
theorem z_sh {v : Int32} {z : Int} (h : v.toInt = z) (h0 : 0 ≤ z ∧ z ≤ 4) : ((1 : Int32) <<< (v &&& 31)).toInt = (2 : Int) ^ z.toNat := by
  obtain ⟨k, rfl⟩ : ∃ k : Nat, z = k := ⟨z.toNat, by omega⟩
  rw [z_nI h, z_sh5 k (by omega), Int.toNat_natCast]
set_option maxRecDepth 20000 in
theorem mt_X8_hangs {kd : Nat → Nat} {K : zK} {X : zX} (hX : ∀ (n pc : Nat) (ls : zLS) (st : List zV) (M : zM), zrun (tb_X8_hangs kd K) [] n X pc ls st M → X pc ls st M) (c : Int32) (i : Int32) (y : Int32) (M : zM) (h : (kd 9 = 8) ∧ ∃ s : St, (RpM M s) ∧ ∀ v : Int32, (v.toInt = (ev_hangs s c.toInt i.toInt y.toInt).1) → ∀ M' : zM, (RpM M' (ev_hangs s c.toInt i.toInt y.toInt).2) → (fr0 M M') → K (some (zI v)) M') : X 0 [some (zR 9 0), some (zI (c)), some (zI (i)), some (zI (y)), none] [] M := by
  obtain ⟨hk, s, hR, hK⟩ := h
  refine vc_X8_hangs_0 hX hk ⟨_, hR.1.1, fun v1 h1 => ⟨fun q v2 h2 M2 e2 => ?_, fun q v3 h3 => ⟨fun q3 f4 hf4 M4 e4 => ?_, fun q3 v12 h12 M12 e12 => ?_⟩⟩⟩
  · rw [h1, zp_0] at q
    exact mrf hR hK 0 (-2) (by decide) (by rw [h2]; rfl) (by unfold ev_hangs; rw [if_neg (fun x => q x.1)]) e2
  · rw [h1, zp_n] at q
    rw [h3, zp_n] at q3
    have hs := hR.sc (by decide) e4
    obtain ⟨l, hl⟩ := Option.isSome_iff_exists.mp q
    have hlb := sk_ok_at hR.1.1.1 hl
    unfold okLy at hlb
    have hev : ev_hangs s c.toInt i.toInt y.toInt = (if bnd l.1 l (sk_at s.1.1 c.toInt (i.toInt + 1)) y.toInt = true ∧ sk_N s.1.1 l.2.1 l.2.2.1 y.toInt = 1 then 2 ^ l.2.1.toNat else 0, s) := by unfold ev_hangs sk_hang; rw [if_pos ⟨q, q3⟩, hl]
    have hbd : sk_bd s.1.1 c.toInt i.toInt y.toInt = bnd l.1 l (sk_at s.1.1 c.toInt (i.toInt + 1)) y.toInt := by unfold sk_bd; rw [hl]
    rw [hev] at hK
    have ha4 : RpF (M4.1 9 5) s.1.1 := by rw [e4, zmw_at]; exact hR.1.1.congr hf4
    refine ⟨_, ha4, l, hl, by decide, fun v5 h5 => ⟨_, ha4, by omega, fun f6 hf6 M6 e6 => ?_⟩⟩
    have h5' : v5.toInt = l.2.1 := h5
    have ha6 : RpF (M6.1 9 5) s.1.1 := by rw [e6, zmw_o (by decide)]; exact ha4
    have hs6 := hs.1.s0 (hf6.2.2 16 (by decide) (by decide)) e6
    have g7 : (M6.1 9 0 7).toInt = sk_N s.1.1 l.2.1 1 y.toInt := by rw [e6, zmw_at, ← h5']; exact hf6.1
    have g8 : (M6.1 9 0 8).toInt = sk_N s.1.1 l.2.1 0 y.toInt := by rw [e6, zmw_at, ← h5']; exact hf6.2.1
    have yes : ∀ v : Int32, bnd l.1 l (sk_at s.1.1 c.toInt (i.toInt + 1)) y.toInt = true → sk_N s.1.1 l.2.1 l.2.2.1 y.toInt = 1 → v.toInt = l.2.1 → K (some (zI ((1 : Int32) <<< (v &&& 31)))) M6 := fun v hb hN hv => hK _ (by show _ = (if _ then _ else _); rw [if_pos ⟨hb, hN⟩]; exact z_sh hv hlb.2.1) M6 hs6.1 (hs.2.tr hs6.2)
    have no : ¬ (bnd l.1 l (sk_at s.1.1 c.toInt (i.toInt + 1)) y.toInt = true ∧ sk_N s.1.1 l.2.1 l.2.2.1 y.toInt = 1) → K (some (zI 0)) M6 := fun hn => hK _ (by show _ = (if _ then _ else _); rw [if_neg hn]; rfl) M6 hs6.1 (hs.2.tr hs6.2)
    have hnn : ¬ sk_at s.1.1 c.toInt i.toInt = none := by rw [hl]; simp
    refine ⟨_, ha6, l, hl, by decide, fun v7 h7 => ⟨fun q7 => ⟨fun q8 => no ?_, fun q8 => ⟨_, ha6, hnn, by omega, fun v8 h8 => ⟨fun q9 => no ?_, fun q9 => ⟨_, ha6, l, hl, by decide, fun v9 h9 => yes v9 ?_ ?_ h9⟩⟩⟩⟩, fun q7 => ⟨fun q8 => no ?_, fun q8 => ⟨_, ha6, hnn, by omega, fun v8 h8 => ⟨fun q9 => no ?_, fun q9 => ⟨_, ha6, l, hl, by decide, fun v9 h9 => yes v9 ?_ ?_ h9⟩⟩⟩⟩⟩⟩
    all_goals have h7' : v7.toInt = l.2.2.1 := h7
    all_goals rw [← Int32.toInt_inj, h7'] at q7
    · have e0 : l.2.2.1 = 0 := by rcases hlb.2.2.1 with e | e; exact e; exact absurd e q7
      rw [← Int32.toInt_inj, g8] at q8
      rw [e0]; exact fun x => q8 x.2
    · rw [h8, zp_0, hbd] at q9; exact fun x => q9 x.1
    · rw [h8, zp_n, hbd] at q9; exact q9
    · have e0 : l.2.2.1 = 0 := by rcases hlb.2.2.1 with e | e; exact e; exact absurd e q7
      rw [← Int32.toInt_inj, g8] at q8
      rw [e0]; exact q8
    · have e0 : l.2.2.1 = 1 := q7
      rw [← Int32.toInt_inj, g7] at q8
      rw [e0]; exact fun x => q8 x.2
    · rw [h8, zp_0, hbd] at q9; exact fun x => q9 x.1
    · rw [h8, zp_n, hbd] at q9; exact q9
    · have e0 : l.2.2.1 = 1 := q7
      rw [← Int32.toInt_inj, g7] at q8
      rw [e0]; exact q8
  · rw [h3, zp_0] at q3
    exact mrf hR hK 0 (-2) (by decide) (by rw [h12]; rfl) (by unfold ev_hangs; rw [if_neg (fun x => q3 x.2)]) e12
theorem ms_X8_hangs : zMS 7 yX8_hangs cX8_hangs 5 (some .int) sp_X8_hangs := by
  intro d hd
  obtain ⟨d', rfl⟩ : ∃ d', d = d' + 7 := ⟨d - 7, by omega⟩
  refine zmethod (tab := tb_X8_hangs) (cut := []) (by decide) (tk_X8_hangs d' ms_X8_isLayer ms_X8_isYear ms_X8_bad ms_X8_layHand ms_X8_hands ms_X8_layRule ms_X8_bindsNow) ?_
  intro kd as M K h
  unfold sp_X8_hangs at h
  split at h
  · rename_i c i y
    exact ⟨Nat.le_of_ble_eq_true rfl, fun X hX => mt_X8_hangs hX c i y M h⟩
  · exact h.elim

