theorem zmw_ex {M M2 M3 : zM} {t o : Nat} {F f : Nat → Int32} (e2 : M2 = zmw M t o F) (e3 : M3 = zmw M2 t o f) : M3 = zmw M t o f := by rw [e3, e2, zmw_mw]
theorem n128 : (128 : Int32).toNatClampNeg = 128 := rfl
theorem n126 : (126 : Int32).toNatClampNeg = 126 := rfl
theorem RpW.seen {f g : Nat → Int32} {r : Rl} (h : RpW f r) (e : ∀ k, 127 ≤ k → k < 153 → k ≠ 128 → g k = f k) : r.2.2.length ≤ 6 ∧ (g 127).toInt = (r.2.2.length : Int) ∧ ∀ (i : Nat) (x : Se), r.2.2[i]? = some x → okSe x ∧ (g (129 + 4 * i)).toInt = x.1 ∧ (g (129 + 4 * i + 1)).toInt = x.2.1 ∧ (g (129 + 4 * i + 2)).toInt = x.2.2.1 ∧ (g (129 + 4 * i + 3)).toInt = x.2.2.2 := by
  refine ⟨h.2.1.1, by rw [e 127 (by omega) (by omega) (by omega)]; exact h.2.1.2.1, fun i x hx => ?_⟩
  have hi := (List.getElem?_eq_some_iff.mp hx).1
  have h6 := h.2.1.1
  rw [e _ (by omega) (by omega) (by omega), e _ (by omega) (by omega) (by omega), e _ (by omega) (by omega) (by omega), e _ (by omega) (by omega) (by omega)]
  exact h.2.1.2.2 i x hx
set_option maxRecDepth 20000 in
theorem mt_X8_keep {kd : Nat → Nat} {K : zK} {X : zX} (hX : ∀ (n pc : Nat) (ls : zLS) (st : List zV) (M : zM), zrun (tb_X8_keep kd K) [(15, []), (57, [1]), (59, [])] n X pc ls st M → X pc ls st M)  (M : zM) (h : (kd 9 = 8) ∧ ∃ r : Rl, (RpW (M.1 9 1) r) ∧ ∀ f : Nat → Int32, (RpW f (r.1, hAdd r.2.1 r.1, r.2.2)) → ∀ M' : zM, (M' = zmw M 9 1 f) → K none M') : X 0 [some (zR 9 0), none] [] M := by
  obtain ⟨hk, r, hr, hK⟩ := h
  have z128 : zin (kd 9) 1 0 (128 : Int32) := zin_of (n := 915) (by rw [hk]; rfl) (by decide) (by decide)
  have fin : ∀ (M1 : zM) (hs : List Sk), hs.length ≤ 5 → RpW (M1.1 9 1) (r.1, hs, r.2.2) → hs ++ [r.1] = hAdd r.2.1 r.1 → (∃ F, M1 = zmw M 9 1 F) → X 57 [some (zR 9 0), none] [] M1 := by
    intro M1 hs hl h1 he e1
    obtain ⟨n, hn⟩ : ∃ n : Nat, hs.length = n := ⟨_, rfl⟩
    have g128 : (M1.1 9 1 128).toInt = (n : Int) := by rw [← hn]; exact h1.2.2.2.1
    refine vc_X8_keep_57 hX (up (N := 127) (Q := fun j => ∀ (M2 : zM) (k : Int32), k.toInt = j → (∀ m, m < j → M2.1 9 1 (153 + 127 * n + m) = M1.1 9 1 m) → (∀ m, (m < 153 + 127 * n ∨ 153 + 127 * n + 127 ≤ m) → M2.1 9 1 m = M1.1 9 1 m) → (∃ F, M2 = zmw M 9 1 F) → X 59 [some (zR 9 0), some (zI k)] [] M2) (fun M2 k hk1 h0 h2 e2 => ?_) (fun j hj ih M2 k hk1 h0 h2 e2 => ?_) 0 (by omega) M1 0 rfl (fun m hm => absurd hm (by omega)) (fun m _ => rfl) e1)
    · refine vc_X8_keep_59 hX hk ⟨fun _ => ?_, fun q => by simp only [Int32.lt_iff_toInt_lt, Int32.le_iff_toInt_le, ← Int32.toInt_inj, Int32.toInt_add, Int32.toInt_sub, Int32.toInt_mul, Int32.toInt_neg, Int.bmod, Int32.reduceToInt] at q; omega⟩
      rw [n128]
      refine ⟨z128, z128, fun M3 e3 => ?_⟩
      obtain ⟨F, e2⟩ := e2
      have e3' : M3 = zmw M 9 1 (upd (M2.1 9 1) 128 (M2.1 9 1 128 + 1)) := zmw_ex e2 e3
      refine hK _ ?_ M3 e3'
      have lo : ∀ m, m < 153 → m ≠ 128 → upd (M2.1 9 1) 128 (M2.1 9 1 128 + 1) m = M1.1 9 1 m := fun m h3 h4 => by rw [upd_ne h4, h2 m (by omega)]
      rw [← he]
      refine ⟨h1.1.congr (fun k hk => lo k (by omega) (by omega)), h1.seen (fun k k1 k2 k3 => lo k (by omega) k3), ⟨by rw [List.length_append]; simp; omega, ?_, fun i b hb => ?_⟩⟩
      · rw [upd_at, h2 128 (by omega), z_inc g128 (by omega), List.length_append, hn]
        rfl
      · have hi := (List.getElem?_eq_some_iff.mp hb).1
        rw [List.length_append, List.length_singleton] at hi
        by_cases hin : i = n
        · subst hin
          rw [List.getElem?_append_right (by omega)] at hb
          simp [hn] at hb
          rw [← hb]
          exact h1.1.congr (fun k hk => by rw [upd_ne (by omega), h0 k hk])
        · rw [List.getElem?_append_left (by omega)] at hb
          exact (h1.2.2.2.2 i b hb).congr (fun k hk => by rw [upd_ne (by omega), h2 _ (by omega)])
    · have hkn : k.toNatClampNeg = j := by rw [z_cl]; omega
      have gg : M2.1 9 1 128 = M1.1 9 1 128 := h2 128 (by omega)
      have hq : ((153 : Int32) + (127 : Int32) * M1.1 9 1 128 + k).toInt = 153 + 127 * n + j := by simp only [Int32.lt_iff_toInt_lt, Int32.le_iff_toInt_le, ← Int32.toInt_inj, Int32.toInt_add, Int32.toInt_sub, Int32.toInt_mul, Int32.toInt_neg, Int.bmod, Int32.reduceToInt]; omega
      have hqn : ((153 : Int32) + (127 : Int32) * M1.1 9 1 128 + k).toNatClampNeg = 153 + 127 * n + j := by rw [z_cl]; omega
      refine vc_X8_keep_59 hX hk ⟨fun q => by simp only [Int32.lt_iff_toInt_lt, Int32.le_iff_toInt_le, ← Int32.toInt_inj, Int32.toInt_add, Int32.toInt_sub, Int32.toInt_mul, Int32.toInt_neg, Int.bmod, Int32.reduceToInt] at q; omega, fun _ => ?_⟩
      rw [n128, gg, hqn, hkn]
      refine ⟨z128, zin_of (n := 915) (by rw [hk]; rfl) (by omega) (by omega), zin_of (n := 915) (by rw [hk]; rfl) (by omega) (by omega), fun M3 e3 => ?_⟩
      obtain ⟨F, e2⟩ := e2
      have g3 : M3.1 9 1 = upd (M2.1 9 1) (153 + 127 * n + j) (M2.1 9 1 j) := by rw [e3, zmw_at]
      refine ih M3 (k + 1) (z_inc hk1 (by omega)) (fun m hm => ?_) (fun m hm => ?_) ⟨_, zmw_ex e2 e3⟩
      · rw [g3]
        by_cases hmj : m = j
        · subst hmj; rw [upd_at, h2 m (by omega)]
        · rw [upd_ne (by omega)]; exact h0 m (by omega)
      · rw [g3, upd_ne (by omega)]; exact h2 m hm
  have h6 := hr.2.2.1
  have hl128 := hr.2.2.2.1
  refine vc_X8_keep_0 hX hk ?_
  rw [n128]
  refine ⟨z128, fun q => ?_, fun q => ?_⟩
  · rw [← Int32.toInt_inj, hl128] at q
    have q' : ¬ (r.2.1.length : Int) = 6 := q
    exact fin M r.2.1 (by omega) hr (by unfold hAdd; rw [if_pos (by omega)]) ⟨_, zmw_sf⟩
  · rw [← Int32.toInt_inj, hl128] at q
    have q' : (r.2.1.length : Int) = 6 := q
    refine up (N := 635) (Q := fun j => ∀ (M2 : zM) (k : Int32), k.toInt = j → (∀ m, m < j → M2.1 9 1 (153 + m) = M.1 9 1 (280 + m)) → (∀ m, (m < 153 ∨ 153 + j ≤ m) → M2.1 9 1 m = M.1 9 1 m) → (∃ F, M2 = zmw M 9 1 F) → X 15 [some (zR 9 0), some (zI k)] [] M2) (fun M2 k hk1 h0 h2 e2 => ?_) (fun j hj ih M2 k hk1 h0 h2 e2 => ?_) 0 (by omega) M 0 rfl (fun m hm => absurd hm (by omega)) (fun m _ => rfl) ⟨_, zmw_sf⟩
    · refine vc_X8_keep_15 hX hk ⟨fun _ => ?_, fun q => by simp only [Int32.lt_iff_toInt_lt, Int32.le_iff_toInt_le, ← Int32.toInt_inj, Int32.toInt_add, Int32.toInt_sub, Int32.toInt_mul, Int32.toInt_neg, Int.bmod, Int32.reduceToInt] at q; omega⟩
      rw [n128]
      refine ⟨z128, fun M3 e3 => ?_⟩
      obtain ⟨F, e2⟩ := e2
      have g3 : M3.1 9 1 = upd (M2.1 9 1) 128 5 := by rw [e3, zmw_at]
      refine fin M3 (r.2.1.drop 1) (by rw [List.length_drop]; omega) ?_ (by unfold hAdd; rw [if_neg (by omega)]) ⟨_, zmw_ex e2 e3⟩
      rw [g3]
      have lo : ∀ m, m < 153 → m ≠ 128 → upd (M2.1 9 1) 128 5 m = M.1 9 1 m := fun m h3 h4 => by rw [upd_ne h4, h2 m (by omega)]
      refine ⟨hr.1.congr (fun k hk => lo k (by omega) (by omega)), hr.seen (fun k k1 k2 k3 => lo k (by omega) k3), ⟨by rw [List.length_drop]; omega, by rw [upd_at, List.length_drop, show r.2.1.length - 1 = 5 by omega]; rfl, fun i b hb => ?_⟩⟩
      have hi := (List.getElem?_eq_some_iff.mp hb).1
      rw [List.length_drop] at hi
      rw [List.getElem?_drop] at hb
      refine (hr.2.2.2.2 (1 + i) b hb).congr (fun k hk => ?_)
      rw [upd_ne (by omega), show 153 + 127 * i + k = 153 + (127 * i + k) by omega, h0 _ (by omega), show 280 + (127 * i + k) = 153 + 127 * (1 + i) + k by omega]
    · have hq : ((153 : Int32) + k).toInt = 153 + j := by simp only [Int32.lt_iff_toInt_lt, Int32.le_iff_toInt_le, ← Int32.toInt_inj, Int32.toInt_add, Int32.toInt_sub, Int32.toInt_mul, Int32.toInt_neg, Int.bmod, Int32.reduceToInt]; omega
      have hqn : ((153 : Int32) + k).toNatClampNeg = 153 + j := by rw [z_cl]; omega
      have hp : ((280 : Int32) + k).toInt = 280 + j := by simp only [Int32.lt_iff_toInt_lt, Int32.le_iff_toInt_le, ← Int32.toInt_inj, Int32.toInt_add, Int32.toInt_sub, Int32.toInt_mul, Int32.toInt_neg, Int.bmod, Int32.reduceToInt]; omega
      have hpn : ((280 : Int32) + k).toNatClampNeg = 280 + j := by rw [z_cl]; omega
      refine vc_X8_keep_15 hX hk ⟨fun q => by simp only [Int32.lt_iff_toInt_lt, Int32.le_iff_toInt_le, ← Int32.toInt_inj, Int32.toInt_add, Int32.toInt_sub, Int32.toInt_mul, Int32.toInt_neg, Int.bmod, Int32.reduceToInt] at q; omega, fun _ => ?_⟩
      rw [hqn, hpn]
      refine ⟨zin_of (n := 915) (by rw [hk]; rfl) (by omega) (by omega), zin_of (n := 915) (by rw [hk]; rfl) (by omega) (by omega), fun M3 e3 => ?_⟩
      obtain ⟨F, e2⟩ := e2
      have g3 : M3.1 9 1 = upd (M2.1 9 1) (153 + j) (M2.1 9 1 (280 + j)) := by rw [e3, zmw_at]
      refine ih M3 (k + 1) (z_inc hk1 (by omega)) (fun m hm => ?_) (fun m hm => ?_) ⟨_, zmw_ex e2 e3⟩
      · rw [g3]
        by_cases hmj : m = j
        · subst hmj; rw [upd_at, h2 _ (by omega)]
        · rw [upd_ne (by omega)]; exact h0 m (by omega)
      · rw [g3, upd_ne (by omega)]; exact h2 m (by omega)
theorem ms_X8_keep : zMS 1 yX8_keep cX8_keep 2 none sp_X8_keep := by
  intro d hd
  obtain ⟨d', rfl⟩ : ∃ d', d = d' + 1 := ⟨d - 1, by omega⟩
  refine zmethod (tab := tb_X8_keep) (cut := [(15, []), (57, [1]), (59, [])]) (by decide) (tk_X8_keep d' ) ?_
  intro kd as M K h
  unfold sp_X8_keep at h
  split at h
  · skip
    exact ⟨Nat.le_of_ble_eq_true rfl, fun X hX => mt_X8_keep hX  M h⟩
  · exact h.elim

theorem RpW.sk {f g : Nat → Int32} {r : Rl} (h : RpW f r) {a : Sk} (ha : RpF g a) (e : ∀ k, 127 ≤ k → g k = f k) : RpW g (a, r.2.1, r.2.2) :=
  ⟨ha, h.seen (fun k k1 _ _ => e k k1), ⟨h.2.2.1, by rw [e 128 (by decide)]; exact h.2.2.2.1, fun i b hb => (h.2.2.2.2 i b hb).congr (fun k _ => e _ (by omega))⟩⟩
theorem RpM.w1 {M M' : zM} {s : St} {r : Rl} {f : Nat → Int32} (h : RpM M s) (hw : RpW f r) (e : M' = zmw M 9 1 f) : RpM M' (sRo s r) ∧ fr0 M M' := by
  have go : ∀ p, p ≠ 1 → M'.1 9 p = M.1 9 p := fun p p0 => by rw [e, zmw_o p0]
  exact ⟨h.g (M' := M') (r := r) (b := s.2.2.1) (by rw [e, zmw_at]; exact hw) (h.2.2.1.congr (by rw [go 0 (by decide)]) (go 9 (by decide))) (go 2 (by decide)) (go 3 (by decide)) (go 4 (by decide)) (by rw [e, zmw_2]), by rw [e]; exact fr0_mw⟩
set_option maxRecDepth 20000 in
theorem mt_X8_rub {kd : Nat → Nat} {K : zK} {X : zX} (hX : ∀ (n pc : Nat) (ls : zLS) (st : List zV) (M : zM), zrun (tb_X8_rub kd K) [] n X pc ls st M → X pc ls st M) (c : Int32) (M : zM) (h : (kd 9 = 8) ∧ ∃ s : St, (RpM M s) ∧ ∀ v : Int32, (v.toInt = (ev_rub s c.toInt).1) → ∀ M' : zM, (RpM M' (ev_rub s c.toInt).2) → (fr0 M M') → K (some (zI v)) M') : X 0 [some (zR 9 0), some (zI (c))] [] M := by
  obtain ⟨hk, s, hR, hK⟩ := h
  refine vc_X8_rub_0 hX hk (fun v1 h1 => ⟨fun q => ⟨by decide, _, hR.1.1, by rw [h1, zp_n] at q; exact q, fun v2 h2 => ⟨fun q2 => ⟨s.1, hR.1, fun f3 hf3 M3 e3 => ?_⟩, fun q2 v5 h5 M5 e5 => ?_⟩⟩, fun q v6 h6 M6 e6 => ?_⟩)
  · rw [h1, zp_n] at q
    rw [h2, zp_n] at q2
    obtain ⟨l, hl, hl1⟩ := sk_canR_iff.mp q2
    have g3 : M3.1 9 1 = f3 := by rw [e3, zmw_at]
    refine ⟨by decide, s.1.1, by rw [g3]; exact hf3.1, l, hl, fun v4 h4 f4 hf4 he4 M4 e4 => ?_⟩
    rw [g3] at he4
    have hev : ev_rub s c.toInt = (s.1.1.2 - l.2.2.2.1, sRo s (rlDo s.1 (sk_rub s.1.1 c.toInt))) := by unfold ev_rub; rw [if_pos q, if_pos q2, hl]
    have := hR.w1 (hf3.sk hf4 he4) (zmw_ex e3 e4)
    exact hK _ (by rw [hev]; exact h4) M4 (by rw [hev]; exact this.1) this.2
  · rw [h1, zp_n] at q
    rw [h2, zp_0] at q2
    exact mrf hR hK 1 (-3) (by decide) h5 (by unfold ev_rub; rw [if_pos q, if_neg q2]) e5
  · rw [h1, zp_0] at q
    exact mrf hR hK 0 (-2) (by decide) (by rw [h6]; rfl) (by unfold ev_rub; rw [if_neg q]) e6
theorem ms_X8_rub : zMS 3 yX8_rub cX8_rub 2 (some .int) sp_X8_rub := by
  intro d hd
  obtain ⟨d', rfl⟩ : ∃ d', d = d' + 3 := ⟨d - 3, by omega⟩
  refine zmethod (tab := tb_X8_rub) (cut := []) (by decide) (tk_X8_rub d' ms_X8_isCell ms_X8_bad ms_X8_mayRub ms_X8_no ms_X8_keep ms_X8_goRub) ?_
  intro kd as M K h
  unfold sp_X8_rub at h
  split at h
  · rename_i c
    exact ⟨Nat.le_of_ble_eq_true rfl, fun X hX => mt_X8_rub hX c M h⟩
  · exact h.elim

set_option maxRecDepth 20000 in
theorem mt_X8_years {kd : Nat → Nat} {K : zK} {X : zX} (hX : ∀ (n pc : Nat) (ls : zLS) (st : List zV) (M : zM), zrun (tb_X8_years kd K) [] n X pc ls st M → X pc ls st M) (n : Int32) (M : zM) (h : (kd 9 = 8) ∧ ∃ s : St, (RpM M s) ∧ ∀ v : Int32, (v.toInt = (ev_years s n.toInt).1) → ∀ M' : zM, (RpM M' (ev_years s n.toInt).2) → (fr0 M M') → K (some (zI v)) M') : X 0 [some (zR 9 0), some (zI (n))] [] M := by
  obtain ⟨hk, s, hR, hK⟩ := h
  refine vc_X8_years_0 hX hk (fun v1 h1 => ?_)
  rw [Int32.toInt_toInt64] at h1
  have h1' : v1 = zp (1 ≤ n.toInt ∧ n.toInt ≤ 99) := h1
  refine ⟨fun q => ⟨s.1, hR.1, fun f2 hf2 M2 e2 => ?_⟩, fun q v4 h4 M4 e4 => ?_⟩
  · rw [h1', zp_n] at q
    have g2 : M2.1 9 1 = f2 := by rw [e2, zmw_at]
    refine ⟨by decide, s.1.1, by rw [g2]; exact hf2.1, by omega, fun f3 hf3 he3 M3 e3 => ?_⟩
    rw [g2] at he3
    have hev : ev_years s n.toInt = ((sk_yr s.1.1 n.toInt).2, sRo s (rlDo s.1 (sk_yr s.1.1 n.toInt))) := by unfold ev_years; rw [if_pos q]
    have := hR.w1 (hf2.sk hf3 he3) (zmw_ex e2 e3)
    refine ⟨zin_of (n := 915) (by rw [hk]; rfl) (by decide) (by decide), ?_⟩
    exact hK _ (by rw [hev, n126, e3, zmw_at]; exact hf3.2.2) M3 (by rw [hev]; exact this.1) this.2
  · rw [h1', zp_0] at q
    exact mrf hR hK 0 (-2) (by decide) (by rw [h4]; rfl) (by unfold ev_years; rw [if_neg q]) e4
theorem ms_X8_years : zMS 2 yX8_years cX8_years 2 (some .int) sp_X8_years := by
  intro d hd
  obtain ⟨d', rfl⟩ : ∃ d', d = d' + 2 := ⟨d - 2, by omega⟩
  refine zmethod (tab := tb_X8_years) (cut := []) (by decide) (tk_X8_years d' ms_X8_in ms_X8_bad ms_X8_keep ms_X8_goYears) ?_
  intro kd as M K h
  unfold sp_X8_years at h
  split at h
  · rename_i n
    exact ⟨Nat.le_of_ble_eq_true rfl, fun X hX => mt_X8_years hX n M h⟩
  · exact h.elim

set_option maxRecDepth 20000 in
theorem mt_X8_write {kd : Nat → Nat} {K : zK} {X : zX} (hX : ∀ (n pc : Nat) (ls : zLS) (st : List zV) (M : zM), zrun (tb_X8_write kd K) [] n X pc ls st M → X pc ls st M) (c : Int32) (k : Int32) (g : Int32) (e : Int32) (M : zM) (h : (kd 9 = 8) ∧ ∃ s : St, (RpM M s) ∧ ∀ v : Int32, (v.toInt = (ev_write s c.toInt k.toInt g.toInt e.toInt).1) → ∀ M' : zM, (RpM M' (ev_write s c.toInt k.toInt g.toInt e.toInt).2) → (fr0 M M') → K (some (zI v)) M') : X 0 [some (zR 9 0), some (zI (c)), some (zI (k)), some (zI (g)), some (zI (e))] [] M := by
  obtain ⟨hk, s, hR, hK⟩ := h
  refine vc_X8_write_0 hX hk (fun v1 h1 => ?_)
  rw [z0a, Int32.toInt_toInt64, Int32.toInt_toInt64]
  refine ⟨fun q v2 h2 M2 e2 => ?_, fun q1 v3 h3 => ⟨fun q v4 h4 M4 e4 => ?_, fun q3 v5 h5 => ⟨fun q v6 h6 M6 e6 => ?_, fun q5 v7 h7 => ⟨fun q7 => ?_, fun q v13 h13 M13 e13 => ?_⟩⟩⟩⟩
  · rw [h1, zp_0] at q
    exact mrf hR hK 0 (-2) (by decide) (by rw [h2]; rfl) (by unfold ev_write; rw [if_neg (fun x => q x.1)]) e2
  · rw [h3, zp_0] at q
    exact mrf hR hK 0 (-2) (by decide) (by rw [h4]; rfl) (by unfold ev_write; rw [if_neg (fun x => q x.2.1)]) e4
  · rw [h5, zp_0] at q
    exact mrf hR hK 0 (-2) (by decide) (by rw [h6]; rfl) (by unfold ev_write; rw [if_neg (fun x => q x.2.2.1)]) e6
  · rw [h1, zp_n] at q1
    rw [h3, zp_n] at q3
    rw [h5, zp_n] at q5
    rw [h7, zp_n] at q7
    have q3' : 0 ≤ k.toInt ∧ k.toInt ≤ 5 := q3
    have q7' : 0 ≤ e.toInt ∧ e.toInt ≤ 1 := q7
    have hall : isC c.toInt ∧ inn k.toInt 0 5 ∧ isT g.toInt ∧ inn e.toInt 0 1 := ⟨q1, q3', q5, q7'⟩
    have hl := hR.1.1.len q1
    have hb := sk_len_b hR.1.1.1 q1.1 q1.2
    refine ⟨by decide, _, hR.1.1, q1, fun v8 h8 => ⟨fun q8 => ⟨zin_of (n := 915) (by rw [hk]; rfl) (by omega) (by omega), fun q9 => ⟨s.1, hR.1, fun f9 hf9 M9 e9 => ?_⟩, fun q9 v11 h11 M11 e11 => ?_⟩, fun q8 v12 h12 M12 e12 => ?_⟩⟩
    · rw [h8, zp_0] at q8
      rw [← Int32.toInt_inj, hl] at q9
      have q9' : ¬ sk_len s.1.1 c.toInt = 4 := q9
      have g9 : M9.1 9 1 = f9 := by rw [e9, zmw_at]
      have q8' : sk_canR s.1.1 c.toInt = false := by simpa using q8
      have hlt : sk_len s.1.1 c.toInt < 4 := by omega
      refine ⟨by decide, s.1.1, by rw [g9]; exact hf9.1, q1, q8', hlt, q3', by unfold isT at q5; omega, by omega, fun v10 h10 f10 hf10 he10 M10 e10 => ?_⟩
      rw [g9] at he10
      have hev : ev_write s c.toInt k.toInt g.toInt e.toInt = (sk_len s.1.1 c.toInt, sRo s (rlDo s.1 (sk_wr s.1.1 c.toInt k.toInt g.toInt e.toInt))) := by unfold ev_write; rw [if_pos hall, if_neg q8, if_pos hlt]
      have := hR.w1 (hf9.sk hf10 he10) (zmw_ex e9 e10)
      exact hK _ (by rw [hev]; exact h10) M10 (by rw [hev]; exact this.1) this.2
    · rw [h8, zp_0] at q8
      rw [← Int32.toInt_inj, hl] at q9
      have q9' : sk_len s.1.1 c.toInt = 4 := q9
      exact mrf hR hK 2 (-4) (by decide) h11 (by unfold ev_write; rw [if_pos hall, if_neg q8, if_neg (by omega)]) e11
    · rw [h8, zp_n] at q8
      exact mrf hR hK 1 (-3) (by decide) h12 (by unfold ev_write; rw [if_pos hall, if_pos q8]) e12
  · rw [h7, zp_0] at q
    exact mrf hR hK 0 (-2) (by decide) (by rw [h13]; rfl) (by unfold ev_write; rw [if_neg (fun x => q x.2.2.2)]) e13
theorem ms_X8_write : zMS 3 yX8_write cX8_write 5 (some .int) sp_X8_write := by
  intro d hd
  obtain ⟨d', rfl⟩ : ∃ d', d = d' + 3 := ⟨d - 3, by omega⟩
  refine zmethod (tab := tb_X8_write) (cut := []) (by decide) (tk_X8_write d' ms_X8_isCell ms_X8_in ms_X8_isThing ms_X8_bad ms_X8_mayRub ms_X8_no ms_X8_full ms_X8_keep ms_X8_goWrite) ?_
  intro kd as M K h
  unfold sp_X8_write at h
  split at h
  · rename_i c k g e
    exact ⟨Nat.le_of_ble_eq_true rfl, fun X hX => mt_X8_write hX c k g e M h⟩
  · exact h.elim

