theorem fr0_mw {M : zM} {o : Nat} {f : Nat → Int32} : fr0 M (zmw M 9 o f) := ⟨fun n hn => by rw [zmw_bs, zbs_ne hn], fun n _ => by rw [zmw_bs]; rfl⟩
theorem fr0.tr {M M' M'' : zM} (h : fr0 M M') (g : fr0 M' M'') : fr0 M M'' := ⟨fun n hn => by rw [g.1 n hn, h.1 n hn], fun n hn => by rw [g.2 n hn, h.2 n hn]⟩
theorem fr0.rf {M : zM} : fr0 M M := ⟨fun _ _ => rfl, fun _ _ => rfl⟩
theorem zmw_2 {M : zM} {t o : Nat} {f : Nat → Int32} : (zmw M t o f).2 = M.2 := by rw [zmw_bs]; rfl
theorem RpY.congr {M M' : zM} {b : List Int} (h : RpY M b) (e0 : M'.1 9 0 16 = M.1 9 0 16) (e9 : M'.1 9 9 = M.1 9 9) : RpY M' b := by
  unfold RpY at *
  rw [e0, e9]
  exact h
theorem RpM.g {M M' : zM} {s : St} {r : Rl} {b : List Int} (h : RpM M s) (h1 : RpW (M'.1 9 1) r) (hY : RpY M' b) (h2 : M'.1 9 2 = M.1 9 2) (h3 : M'.1 9 3 = M.1 9 3) (h4 : M'.1 9 4 = M.1 9 4) (hm : M'.2 = M.2) : RpM M' (r, s.2.1, b, s.2.2.2) := by
  refine ⟨h1, fun j hj => ?_, hY, ?_, fun n hn => ?_⟩
  · rw [h2, h3]; exact h.2.1 j hj
  · rw [hm]; exact h.2.2.2.1
  · rw [h4]; exact h.2.2.2.2 n hn
theorem RpM.rf {M M' : zM} {s : St} {k : Nat} (h : RpM M s) (e : M' = zmw M 9 4 (upd (M.1 9 4) k (M.1 9 4 k + 1))) (hk : k < 3) : RpM M' (sRf s k) ∧ fr0 M M' := by
  have ho : ∀ p, p ≠ 4 → M'.1 9 p = M.1 9 p := fun p hp => by rw [e, zmw_o hp]
  refine ⟨⟨by rw [ho 1 (by decide)]; exact h.1, fun j hj => ?_, h.2.2.1.congr (by rw [ho 0 (by decide)]) (ho 9 (by decide)), ?_, fun n hn => ?_⟩, by rw [e]; exact fr0_mw⟩
  · rw [ho 2 (by decide), ho 3 (by decide)]; exact h.2.1 j hj
  · rw [e, zmw_2]; exact h.2.2.2.1
  · rw [e, zmw_at]
    simp only [sRf, upd]
    rw [h.2.2.2.2 n hn, h.2.2.2.2 k hk]
theorem mrf {M M2 : zM} {s : St} {K : zK} {ev : Int × St} (hR : RpM M s) (hK : ∀ v : Int32, v.toInt = ev.1 → ∀ M' : zM, RpM M' ev.2 → fr0 M M' → K (some (zI v)) M') {v : Int32} (k : Nat) (z : Int) (hk : k < 3) (hz : v.toInt = z) (e : ev = (z, sRf s k)) (e2 : M2 = zmw M 9 4 (upd (M.1 9 4) k (M.1 9 4 k + 1))) : K (some (zI v)) M2 := by
  have := hR.rf e2 hk
  exact hK v (by rw [e]; exact hz) M2 (by rw [e]; exact this.1) this.2
theorem mok {M : zM} {s : St} {K : zK} {ev : Int × St} (hR : RpM M s) (hK : ∀ v : Int32, v.toInt = ev.1 → ∀ M' : zM, RpM M' ev.2 → fr0 M M' → K (some (zI v)) M') {v : Int32} {z : Int} (hz : v.toInt = z) (e : ev = (z, s)) : K (some (zI v)) M := hK v (by rw [e]; exact hz) M (by rw [e]; exact hR) fr0.rf
theorem RpW_0 {f : Nat → Int32} (h : ∀ k, k < 153 → f k = 0) : RpW f (sk_0, [], []) := by
  refine ⟨⟨ok_sk0, fun c hc => ⟨by rw [h c (by omega)]; rfl, fun i l hl => by simp [sk_0] at hl⟩, by rw [h 126 (by decide)]; rfl⟩, ⟨by simp, by rw [h 127 (by decide)]; rfl, fun i x hx => by simp at hx⟩, ⟨by simp, by rw [h 128 (by decide)]; rfl, fun i x hx => by simp at hx⟩⟩
set_option maxRecDepth 20000 in
theorem mt_X8_roll {kd : Nat → Nat} {K : zK} {X : zX} (hX : ∀ (n pc : Nat) (ls : zLS) (st : List zV) (M : zM), zrun (tb_X8_roll kd K) [] n X pc ls st M → X pc ls st M)  (M : zM) (h : (kd 9 = 8) ∧ ∃ s : St, (RpM M s) ∧ ∀ v : Int32, (v.toInt = (ev_roll s).1) → ∀ M' : zM, (RpM M' (ev_roll s).2) → (fr0 M M') → K (some (zI v)) M') : X 0 [some (zR 9 0), none] [] M := by
  obtain ⟨hk, s, hR, hK⟩ := h
  refine vc_X8_roll_0 hX hk ⟨by decide, _, hR.1.1, fun v1 h1 => ⟨by decide, fun f2 hf _ M2 e2 => ?_⟩⟩
  have := hR.g (M' := M2) (r := (sk_0, [], [])) (b := s.2.2.1) (by rw [e2, zmw_at]; exact RpW_0 hf) (hR.2.2.1.congr (by rw [e2, zmw_o (by decide)]) (by rw [e2, zmw_o (by decide)])) (by rw [e2, zmw_o (by decide)]) (by rw [e2, zmw_o (by decide)]) (by rw [e2, zmw_o (by decide)]) (by rw [e2, zmw_2])
  exact hK _ h1 M2 this (by rw [e2]; exact fr0_mw)
theorem ms_X8_roll : zMS 2 yX8_roll cX8_roll 2 (some .int) sp_X8_roll := by
  intro d hd
  obtain ⟨d', rfl⟩ : ∃ d', d = d' + 2 := ⟨d - 2, by omega⟩
  refine zmethod (tab := tb_X8_roll) (cut := []) (by decide) (tk_X8_roll d' ms_X8_allLayers ms_X8_begin) ?_
  intro kd as M K h
  unfold sp_X8_roll at h
  split at h
  · skip
    exact ⟨Nat.le_of_ble_eq_true rfl, fun X hX => mt_X8_roll hX  M h⟩
  · exact h.elim

set_option maxRecDepth 20000 in
theorem mt_X8_layers {kd : Nat → Nat} {K : zK} {X : zX} (hX : ∀ (n pc : Nat) (ls : zLS) (st : List zV) (M : zM), zrun (tb_X8_layers kd K) [] n X pc ls st M → X pc ls st M) (c : Int32) (M : zM) (h : (kd 9 = 8) ∧ ∃ s : St, (RpM M s) ∧ ∀ v : Int32, (v.toInt = (ev_layers s c.toInt).1) → ∀ M' : zM, (RpM M' (ev_layers s c.toInt).2) → (fr0 M M') → K (some (zI v)) M') : X 0 [some (zR 9 0), some (zI (c))] [] M := by
  obtain ⟨hk, s, hR, hK⟩ := h
  refine vc_X8_layers_0 hX hk (fun v1 h1 => ?_)
  rw [z0a]
  refine ⟨fun q v2 h2 M2 e2 => ?_, fun q => ?_⟩
  · rw [h1, zp_0] at q
    exact mrf hR hK 0 (-2) (by decide) (by rw [h2]; rfl) (by unfold ev_layers; rw [if_neg q]) e2
  · rw [h1, zp_n] at q
    exact ⟨zin_of (n := 915) (by rw [hk]; rfl) (by omega) (by omega), mok hR hK (hR.1.1.len q) (by unfold ev_layers; rw [if_pos q])⟩
theorem ms_X8_layers : zMS 3 yX8_layers cX8_layers 2 (some .int) sp_X8_layers := by
  intro d hd
  obtain ⟨d', rfl⟩ : ∃ d', d = d' + 3 := ⟨d - 3, by omega⟩
  refine zmethod (tab := tb_X8_layers) (cut := []) (by decide) (tk_X8_layers d' ms_X8_isCell ms_X8_bad) ?_
  intro kd as M K h
  unfold sp_X8_layers at h
  split at h
  · rename_i c
    exact ⟨Nat.le_of_ble_eq_true rfl, fun X hX => mt_X8_layers hX c M h⟩
  · exact h.elim

set_option maxRecDepth 20000 in
theorem mt_X8_of {kd : Nat → Nat} {K : zK} {X : zX} (hX : ∀ (n pc : Nat) (ls : zLS) (st : List zV) (M : zM), zrun (tb_X8_of kd K) [] n X pc ls st M → X pc ls st M) (c : Int32) (i : Int32) (w : Int32) (M : zM) (h : (kd 9 = 8) ∧ ∃ s : St, (RpM M s) ∧ ∀ v : Int32, (v.toInt = (ev_of s c.toInt i.toInt w.toInt).1) → ∀ M' : zM, (RpM M' (ev_of s c.toInt i.toInt w.toInt).2) → (fr0 M M') → K (some (zI v)) M') : X 0 [some (zR 9 0), some (zI (c)), some (zI (i)), some (zI (w))] [] M := by
  obtain ⟨hk, s, hR, hK⟩ := h
  refine vc_X8_of_0 hX hk ⟨_, hR.1.1, fun v1 h1 => ⟨fun q v2 h2 M2 e2 => ?_, fun q v3 h3 => ?_⟩⟩
  · rw [h1, zp_0] at q
    have hn : sk_at s.1.1 c.toInt i.toInt = none := by simpa using q
    exact mrf hR hK 0 (-10) (by decide) (by rw [h2]; rfl) (by unfold ev_of; rw [hn]) e2
  · rw [h1, zp_n] at q
    obtain ⟨l, hl⟩ := Option.isSome_iff_exists.mp q
    obtain ⟨a0, a1, a2, a3, a4⟩ := sk_at_some hl
    have hb := sk_len_b hR.1.1.1 a0 a1
    rw [Int32.toInt_toInt64] at h3
    have h3' : v3 = zp (0 ≤ w.toInt ∧ w.toInt ≤ 4) := h3
    refine ⟨fun q3 v4 h4 M4 e4 => ?_, fun q3 => ?_⟩
    · rw [h3', zp_0] at q3
      exact mrf hR hK 0 (-10) (by decide) (by rw [h4]; rfl) (by unfold ev_of; rw [hl]; simp only; rw [if_neg q3]) e4
    · rw [h3', zp_n] at q3
      obtain ⟨n, hn⟩ : ∃ n : Nat, w.toInt = n := ⟨w.toInt.toNat, by omega⟩
      refine ⟨⟨by omega, by omega, by omega, by omega⟩, fun v5 h5 => ⟨zin_of (n := 915) (by rw [hk]; rfl) (by omega) (by omega), mok hR hK (z := ly_f l w.toInt) ?_ (by unfold ev_of; rw [hl]; simp only; rw [if_pos q3])⟩⟩
      rw [hn] at h5 ⊢
      exact hR.1.1.ly hl (j := n) (by omega) h5
theorem ms_X8_of : zMS 4 yX8_of cX8_of 4 (some .int) sp_X8_of := by
  intro d hd
  obtain ⟨d', rfl⟩ : ∃ d', d = d' + 4 := ⟨d - 4, by omega⟩
  refine zmethod (tab := tb_X8_of) (cut := []) (by decide) (tk_X8_of d' ms_X8_isLayer ms_X8_in ms_X8_at ms_X8_bad) ?_
  intro kd as M K h
  unfold sp_X8_of at h
  split at h
  · rename_i c i w
    exact ⟨Nat.le_of_ble_eq_true rfl, fun X hX => mt_X8_of hX c i w M h⟩
  · exact h.elim

set_option maxRecDepth 20000 in
theorem mt_X8_type {kd : Nat → Nat} {K : zK} {X : zX} (hX : ∀ (n pc : Nat) (ls : zLS) (st : List zV) (M : zM), zrun (tb_X8_type kd K) [] n X pc ls st M → X pc ls st M) (c : Int32) (M : zM) (h : (kd 9 = 8) ∧ ∃ s : St, (RpM M s) ∧ ∀ v : Int32, (v.toInt = (ev_type s c.toInt).1) → ∀ M' : zM, (RpM M' (ev_type s c.toInt).2) → (fr0 M M') → K (some (zI v)) M') : X 0 [some (zR 9 0), some (zI (c))] [] M := by
  obtain ⟨hk, s, hR, hK⟩ := h
  have hY := hR.2.2.1
  have hs := hY.2.1
  have hs0 := hY.1
  refine vc_X8_type_0 hX hk (fun v1 h1 => ?_)
  rw [Int32.toInt_toInt64] at h1
  have h1' : v1 = zp (0 ≤ c.toInt ∧ c.toInt ≤ 127) := h1
  refine ⟨fun q => ⟨fun q2 => ⟨zin_of (n := 150) (by rw [hk]; rfl) (by omega) ?_, fun M2 e2 M3 e3 => ?_⟩, fun q2 v4 h4 M4 e4 => ?_⟩, fun q v5 h5 M5 e5 => ?_⟩
  · rw [← Int32.toInt_inj, hs] at q2
    have q2' : ¬ (s.2.2.1.length : Int) = 150 := q2
    omega
  · rw [h1', zp_n] at q
    rw [← Int32.toInt_inj, hs] at q2
    have q2' : ¬ (s.2.2.1.length : Int) = 150 := q2
    have hlt : s.2.2.1.length < 150 := by omega
    have hev : ev_type s c.toInt = ((s.2.2.1.length : Int) + 1, (s.1, s.2.1, s.2.2.1 ++ [c.toInt], s.2.2.2)) := by unfold ev_type; rw [if_pos q, if_pos hlt]
    rw [z_cl, hs, Int.toNat_natCast] at e2
    have g20 : M2.1 9 0 = M.1 9 0 := by rw [e2, zmw_o (by decide)]
    rw [g20] at e3
    have g30 : M3.1 9 0 16 = M.1 9 0 16 + 1 := by rw [e3, zmw_at, upd_at]
    have g39 : M3.1 9 9 = upd (M.1 9 9) s.2.2.1.length c := by rw [e3, zmw_o (by decide), e2, zmw_at]
    have go : ∀ p, p ≠ 0 → p ≠ 9 → M3.1 9 p = M.1 9 p := fun p p0 p9 => by rw [e3, zmw_o p0, e2, zmw_o p9]
    have hn : (M3.1 9 0 16).toInt = (s.2.2.1.length : Int) + 1 := by rw [g30]; exact z_inc hs (by omega)
    have := hR.g (M' := M3) (r := s.1) (b := s.2.2.1 ++ [c.toInt]) (by rw [go 1 (by decide) (by decide)]; exact hR.1) ⟨by rw [List.length_append]; simp; omega, by rw [hn, List.length_append]; rfl, fun i z hz => ?_⟩ (go 2 (by decide) (by decide)) (go 3 (by decide) (by decide)) (go 4 (by decide) (by decide)) (by rw [e3, zmw_2, e2, zmw_2])
    · exact hK _ (by rw [hev]; exact hn) M3 (by rw [hev]; exact this) (by rw [e3, e2]; exact fr0_mw.tr fr0_mw)
    · rw [g39]
      by_cases hi : i = s.2.2.1.length
      · subst hi
        rw [List.getElem?_append_right (Nat.le_refl _)] at hz
        simp at hz
        rw [upd_at, ← hz]
        exact ⟨q, rfl⟩
      · have hi2 := (List.getElem?_eq_some_iff.mp hz).1
        simp at hi2
        rw [List.getElem?_append_left (by omega)] at hz
        rw [upd_ne hi]
        exact hY.2.2 i z hz
  · rw [h1', zp_n] at q
    rw [← Int32.toInt_inj, hs] at q2
    have q2' : (s.2.2.1.length : Int) = 150 := q2
    exact mrf hR hK 2 (-4) (by decide) h4 (by unfold ev_type; rw [if_pos q, if_neg (by omega)]) e4
  · rw [h1', zp_0] at q
    exact mrf hR hK 0 (-2) (by decide) (by rw [h5]; rfl) (by unfold ev_type; rw [if_neg q]) e5
theorem ms_X8_type : zMS 2 yX8_type cX8_type 2 (some .int) sp_X8_type := by
  intro d hd
  obtain ⟨d', rfl⟩ : ∃ d', d = d' + 2 := ⟨d - 2, by omega⟩
  refine zmethod (tab := tb_X8_type) (cut := []) (by decide) (tk_X8_type d' ms_X8_in ms_X8_bad ms_X8_full) ?_
  intro kd as M K h
  unfold sp_X8_type at h
  split at h
  · rename_i c
    exact ⟨Nat.le_of_ble_eq_true rfl, fun X hX => mt_X8_type hX c M h⟩
  · exact h.elim

set_option maxRecDepth 20000 in
theorem mt_X8_clear {kd : Nat → Nat} {K : zK} {X : zX} (hX : ∀ (n pc : Nat) (ls : zLS) (st : List zV) (M : zM), zrun (tb_X8_clear kd K) [] n X pc ls st M → X pc ls st M)  (M : zM) (h : (kd 9 = 8) ∧ ∃ s : St, (RpM M s) ∧ ∀ v : Int32, (v.toInt = (ev_clear s).1) → ∀ M' : zM, (RpM M' (ev_clear s).2) → (fr0 M M') → K (some (zI v)) M') : X 0 [some (zR 9 0), none] [] M := by
  obtain ⟨hk, s, hR, hK⟩ := h
  refine vc_X8_clear_0 hX hk (fun M1 e1 => ?_)
  have go : ∀ p, p ≠ 0 → M1.1 9 p = M.1 9 p := fun p p0 => by rw [e1, zmw_o p0]
  have := hR.g (M' := M1) (r := s.1) (b := []) (by rw [go 1 (by decide)]; exact hR.1) ⟨by simp, by rw [e1, zmw_at, upd_at]; rfl, fun i z hz => by simp at hz⟩ (go 2 (by decide)) (go 3 (by decide)) (go 4 (by decide)) (by rw [e1, zmw_2])
  exact hK _ hR.2.2.1.2.1 M1 this (by rw [e1]; exact fr0_mw)
theorem ms_X8_clear : zMS 1 yX8_clear cX8_clear 2 (some .int) sp_X8_clear := by
  intro d hd
  obtain ⟨d', rfl⟩ : ∃ d', d = d' + 1 := ⟨d - 1, by omega⟩
  refine zmethod (tab := tb_X8_clear) (cut := []) (by decide) (tk_X8_clear d' ) ?_
  intro kd as M K h
  unfold sp_X8_clear at h
  split at h
  · skip
    exact ⟨Nat.le_of_ble_eq_true rfl, fun X hX => mt_X8_clear hX  M h⟩
  · exact h.elim

theorem RpW.se {f : Nat → Int32} {r : Rl} (h : RpW f r) {x : Int32} (hx : x.toInt = 0) : RpW (upd f 127 x) (r.1, r.2.1, []) := by
  refine ⟨h.1.congr (fun k hk => upd_ne (by omega)), ⟨by simp, by rw [upd_at]; exact hx, fun i y hy => by simp at hy⟩, h.2.2.1, by rw [upd_ne (by decide)]; exact h.2.2.2.1, fun i b hb => (h.2.2.2.2 i b hb).congr (fun k hk => upd_ne (by omega))⟩
set_option maxRecDepth 20000 in
theorem mt_X8_forget {kd : Nat → Nat} {K : zK} {X : zX} (hX : ∀ (n pc : Nat) (ls : zLS) (st : List zV) (M : zM), zrun (tb_X8_forget kd K) [] n X pc ls st M → X pc ls st M)  (M : zM) (h : (kd 9 = 8) ∧ ∃ s : St, (RpM M s) ∧ ∀ v : Int32, (v.toInt = (ev_forget s).1) → ∀ M' : zM, (RpM M' (ev_forget s).2) → (fr0 M M') → K (some (zI v)) M') : X 0 [some (zR 9 0), none] [] M := by
  obtain ⟨hk, s, hR, hK⟩ := h
  have n127 : (127 : Int32).toNatClampNeg = 127 := rfl
  have hz : zin (kd 9) 1 0 (127 : Int32) := zin_of (n := 915) (by rw [hk]; rfl) (by decide) (by decide)
  refine vc_X8_forget_0 hX hk ?_
  rw [n127]
  refine ⟨hz, hz, fun M1 e1 => ?_⟩
  have go : ∀ p, p ≠ 1 → M1.1 9 p = M.1 9 p := fun p p0 => by rw [e1, zmw_o p0]
  have := hR.g (M' := M1) (r := (s.1.1, s.1.2.1, [])) (b := s.2.2.1) (by rw [e1, zmw_at]; exact hR.1.se rfl) (hR.2.2.1.congr (by rw [go 0 (by decide)]) (go 9 (by decide))) (go 2 (by decide)) (go 3 (by decide)) (go 4 (by decide)) (by rw [e1, zmw_2])
  exact hK _ hR.1.2.1.2.1 M1 this (by rw [e1]; exact fr0_mw)
theorem ms_X8_forget : zMS 1 yX8_forget cX8_forget 2 (some .int) sp_X8_forget := by
  intro d hd
  obtain ⟨d', rfl⟩ : ∃ d', d = d' + 1 := ⟨d - 1, by omega⟩
  refine zmethod (tab := tb_X8_forget) (cut := []) (by decide) (tk_X8_forget d' ) ?_
  intro kd as M K h
  unfold sp_X8_forget at h
  split at h
  · skip
    exact ⟨Nat.le_of_ble_eq_true rfl, fun X hX => mt_X8_forget hX  M h⟩
  · exact h.elim

set_option maxRecDepth 20000 in
theorem mt_X8_status {kd : Nat → Nat} {K : zK} {X : zX} (hX : ∀ (n pc : Nat) (ls : zLS) (st : List zV) (M : zM), zrun (tb_X8_status kd K) [] n X pc ls st M → X pc ls st M) (w : Int32) (M : zM) (h : (kd 9 = 8) ∧ ∃ s : St, (RpM M s) ∧ ∀ v : Int32, (v.toInt = (ev_status s w.toInt).1) → ∀ M' : zM, (RpM M' (ev_status s w.toInt).2) → (fr0 M M') → K (some (zI v)) M') : X 0 [some (zR 9 0), some (zI (w))] [] M := by
  obtain ⟨hk, s, hR, hK⟩ := h
  refine vc_X8_status_0 hX hk (fun v1 h1 => ?_)
  rw [Int32.toInt_toInt64] at h1
  have h1' : v1 = zp (0 ≤ w.toInt ∧ w.toInt ≤ 2) := h1
  refine ⟨fun q v2 h2 M2 e2 => ?_, fun q => ?_⟩
  · rw [h1', zp_0] at q
    exact mrf hR hK 0 (-1) (by decide) (by rw [h2]; rfl) (by unfold ev_status; rw [if_neg q]) e2
  · rw [h1', zp_n] at q
    refine ⟨zin_of (n := 3) (by rw [hk]; rfl) (by omega) (by omega), mok hR hK (z := (s.2.2.2.2 w.toInt.toNat).toInt) ?_ (by unfold ev_status; rw [if_pos q])⟩
    rw [z_cl, hR.2.2.2.2 _ (by omega)]
theorem ms_X8_status : zMS 2 yX8_status cX8_status 2 (some .int) sp_X8_status := by
  intro d hd
  obtain ⟨d', rfl⟩ : ∃ d', d = d' + 2 := ⟨d - 2, by omega⟩
  refine zmethod (tab := tb_X8_status) (cut := []) (by decide) (tk_X8_status d' ms_X8_in ms_X8_bad) ?_
  intro kd as M K h
  unfold sp_X8_status at h
  split at h
  · rename_i w
    exact ⟨Nat.le_of_ble_eq_true rfl, fun X hX => mt_X8_status hX w M h⟩
  · exact h.elim

set_option maxRecDepth 20000 in
theorem mt_X8_part {kd : Nat → Nat} {K : zK} {X : zX} (hX : ∀ (n pc : Nat) (ls : zLS) (st : List zV) (M : zM), zrun (tb_X8_part kd K) [] n X pc ls st M → X pc ls st M) (w : Int32) (M : zM) (h : (kd 9 = 8) ∧ ∃ s : St, (RpM M s) ∧ ∀ v : Int64, (v.toInt = (ev_part s w.toInt).1) → ∀ M' : zM, (RpM M' (ev_part s w.toInt).2) → (fr0 M M') → K (some (zL v)) M') : X 0 [some (zR 9 0), some (zI (w))] [] M := by
  obtain ⟨hk, s, hR, hK⟩ := h
  have w0 : w = 0 ↔ w.toInt = 0 := by rw [← Int32.toInt_inj]; exact Iff.rfl
  have w1 : w = 1 ↔ w.toInt = 1 := by rw [← Int32.toInt_inj]; exact Iff.rfl
  refine vc_X8_part_0 hX hk ⟨fun q0 => ⟨fun q1 v1 h1 M1 e1 => ?_, fun q1 => hK _ ?_ M ?_ fr0.rf⟩, fun q0 => hK _ ?_ M ?_ fr0.rf⟩
  · rw [w0] at q0
    rw [w1] at q1
    have hev : ev_part s w.toInt = (-2, sRf s 0) := by unfold ev_part; rw [if_neg (by omega)]
    have := hR.rf e1 (by decide)
    exact hK _ (by rw [hev, h1]; rfl) M1 (by rw [hev]; exact this.1) this.2
  · rw [w1] at q1
    unfold ev_part
    rw [if_pos (by omega), if_neg (by omega)]
    exact hR.2.2.2.1.2
  · rw [w1] at q1
    unfold ev_part
    rw [if_pos (by omega)]
    exact hR
  · rw [w0] at q0
    unfold ev_part
    rw [if_pos (by omega), if_pos q0]
    exact hR.2.2.2.1.1
  · rw [w0] at q0
    unfold ev_part
    rw [if_pos (by omega)]
    exact hR
theorem ms_X8_part : zMS 2 yX8_part cX8_part 2 (some .long) sp_X8_part := by
  intro d hd
  obtain ⟨d', rfl⟩ : ∃ d', d = d' + 2 := ⟨d - 2, by omega⟩
  refine zmethod (tab := tb_X8_part) (cut := []) (by decide) (tk_X8_part d' ms_X8_bad) ?_
  intro kd as M K h
  unfold sp_X8_part at h
  split at h
  · rename_i w
    exact ⟨Nat.le_of_ble_eq_true rfl, fun X hX => mt_X8_part hX w M h⟩
  · exact h.elim

