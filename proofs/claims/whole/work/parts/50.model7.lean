set_option maxRecDepth 20000 in
theorem mt_X8_undo {kd : Nat → Nat} {K : zK} {X : zX} (hX : ∀ (n pc : Nat) (ls : zLS) (st : List zV) (M : zM), zrun (tb_X8_undo kd K) [(30, [])] n X pc ls st M → X pc ls st M)  (M : zM) (h : (kd 9 = 8) ∧ ∃ s : St, (RpM M s) ∧ ∀ v : Int32, (v.toInt = (ev_undo s).1) → ∀ M' : zM, (RpM M' (ev_undo s).2) → (fr0 M M') → K (some (zI v)) M') : X 0 [some (zR 9 0), none] [] M := by
  obtain ⟨hk, s, hR, hK⟩ := h
  have z128 : zin (kd 9) 1 0 (128 : Int32) := zin_of (n := 915) (by rw [hk]; rfl) (by decide) (by decide)
  have z126 : zin (kd 9) 1 0 (126 : Int32) := zin_of (n := 915) (by rw [hk]; rfl) (by decide) (by decide)
  have h6 := hR.1.2.2.1
  have h128 := hR.1.2.2.2.1
  refine vc_X8_undo_0 hX hk ?_
  rw [n128]
  refine ⟨z128, fun q => ⟨z128, z128, fun M1 e1 => ?_⟩, fun q v2 h2 M2 e2 => ?_⟩
  · rw [← Int32.toInt_inj, h128] at q
    have q' : ¬ (s.1.2.1.length : Int) = 0 := q
    rcases List.eq_nil_or_concat s.1.2.1 with e | ⟨hs, b, e⟩
    · rw [e] at q'; exact absurd rfl q'
    rw [List.concat_eq_append] at e
    have hev : ev_undo s = (b.2, sRo s (b, hs, s.1.2.2)) := by unfold ev_undo; rw [e]; simp
    obtain ⟨n, hn⟩ : ∃ n : Nat, hs.length = n := ⟨_, rfl⟩
    have hlen : s.1.2.1.length = n + 1 := by rw [e, List.length_append, hn]; rfl
    have hb : RpF (fun k => M.1 9 1 (153 + 127 * n + k)) b := hR.1.2.2.2.2 n b (by rw [e, List.getElem?_append_right (by omega)]; simp [hn])
    have g1 : M1.1 9 1 = upd (M.1 9 1) 128 (M.1 9 1 128 - 1) := by rw [e1, zmw_at]
    have g128 : (M1.1 9 1 128).toInt = (n : Int) := by rw [g1, upd_at]; simp only [Int32.lt_iff_toInt_lt, Int32.le_iff_toInt_le, ← Int32.toInt_inj, Int32.toInt_add, Int32.toInt_sub, Int32.toInt_mul, Int32.toInt_neg, Int.bmod, Int32.reduceToInt]; omega
    refine up (N := 127) (Q := fun j => ∀ (M2 : zM) (k : Int32), k.toInt = j → (∀ m, m < j → M2.1 9 1 m = M1.1 9 1 (153 + 127 * n + m)) → (∀ m, 127 ≤ m → M2.1 9 1 m = M1.1 9 1 m) → (∃ F, M2 = zmw M 9 1 F) → X 30 [some (zR 9 0), some (zI k)] [] M2) (fun M2 k hk1 h0 h2 e2 => ?_) (fun j hj ih M2 k hk1 h0 h2 e2 => ?_) 0 (by omega) M1 0 rfl (fun m hm => absurd hm (by omega)) (fun m _ => rfl) ⟨_, e1⟩
    · refine vc_X8_undo_30 hX hk ⟨fun _ => ⟨z126, ?_⟩, fun q => by simp only [Int32.lt_iff_toInt_lt, Int32.le_iff_toInt_le, ← Int32.toInt_inj, Int32.toInt_add, Int32.toInt_sub, Int32.toInt_mul, Int32.toInt_neg, Int.bmod, Int32.reduceToInt] at q; omega⟩
      obtain ⟨F, e2⟩ := e2
      have hF : M2.1 9 1 = F := by rw [e2, zmw_at]
      have hi : ∀ m, 127 ≤ m → m ≠ 128 → F m = M.1 9 1 m := fun m m1 m2 => by rw [← hF, h2 m m1, g1, upd_ne m2]
      have hbF : RpF F b := hb.congr (fun k hk => by rw [← hF, h0 k hk, g1, upd_ne (by omega)])
      have hw : RpW F (b, hs, s.1.2.2) := by
        refine ⟨hbF, hR.1.seen (fun k k1 _ k3 => hi k k1 k3), ⟨by show hs.length ≤ 6; omega, by rw [← hF, h2 128 (by decide), g128]; show (n : Int) = (hs.length : Int); rw [hn], fun i c hc => ?_⟩⟩
        have hc' : hs[i]? = some c := hc
        have hil := (List.getElem?_eq_some_iff.mp hc').1
        exact (hR.1.2.2.2.2 i c (by rw [e, List.getElem?_append_left hil]; exact hc')).congr (fun k hk => hi _ (by omega) (by omega))
      have := hR.w1 hw e2
      exact hK _ (by rw [hev, n126, hF]; exact hbF.2.2) M2 (by rw [hev]; exact this.1) this.2
    · have hkn : k.toNatClampNeg = j := by rw [z_cl]; omega
      have gg : M2.1 9 1 128 = M1.1 9 1 128 := h2 128 (by omega)
      have hq : ((153 : Int32) + (127 : Int32) * M1.1 9 1 128 + k).toInt = 153 + 127 * n + j := by simp only [Int32.lt_iff_toInt_lt, Int32.le_iff_toInt_le, ← Int32.toInt_inj, Int32.toInt_add, Int32.toInt_sub, Int32.toInt_mul, Int32.toInt_neg, Int.bmod, Int32.reduceToInt]; omega
      have hqn : ((153 : Int32) + (127 : Int32) * M1.1 9 1 128 + k).toNatClampNeg = 153 + 127 * n + j := by rw [z_cl]; omega
      refine vc_X8_undo_30 hX hk ⟨fun q => by simp only [Int32.lt_iff_toInt_lt, Int32.le_iff_toInt_le, ← Int32.toInt_inj, Int32.toInt_add, Int32.toInt_sub, Int32.toInt_mul, Int32.toInt_neg, Int.bmod, Int32.reduceToInt] at q; omega, fun _ => ?_⟩
      rw [n128, gg, hqn, hkn]
      refine ⟨z128, zin_of (n := 915) (by rw [hk]; rfl) (by omega) (by omega), zin_of (n := 915) (by rw [hk]; rfl) (by omega) (by omega), fun M3 e3 => ?_⟩
      obtain ⟨F, e2⟩ := e2
      have g3 : M3.1 9 1 = upd (M2.1 9 1) j (M2.1 9 1 (153 + 127 * n + j)) := by rw [e3, zmw_at]
      refine ih M3 (k + 1) (z_inc hk1 (by omega)) (fun m hm => ?_) (fun m hm => ?_) ⟨_, zmw_ex e2 e3⟩
      · rw [g3]
        by_cases hmj : m = j
        · subst hmj; rw [upd_at, h2 _ (by omega)]
        · rw [upd_ne hmj]; exact h0 m (by omega)
      · rw [g3, upd_ne (by omega)]; exact h2 m hm
  · rw [← Int32.toInt_inj, h128] at q
    have q' : (s.1.2.1.length : Int) = 0 := q
    have e : s.1.2.1 = [] := List.eq_nil_of_length_eq_zero (by omega)
    exact mrf hR hK 1 (-3) (by decide) h2 (by unfold ev_undo; rw [e]; rfl) e2
theorem ms_X8_undo : zMS 2 yX8_undo cX8_undo 2 (some .int) sp_X8_undo := by
  intro d hd
  obtain ⟨d', rfl⟩ : ∃ d', d = d' + 2 := ⟨d - 2, by omega⟩
  refine zmethod (tab := tb_X8_undo) (cut := [(30, [])]) (by decide) (tk_X8_undo d' ms_X8_no) ?_
  intro kd as M K h
  unfold sp_X8_undo at h
  split at h
  · skip
    exact ⟨Nat.le_of_ble_eq_true rfl, fun X hX => mt_X8_undo hX  M h⟩
  · exact h.elim

