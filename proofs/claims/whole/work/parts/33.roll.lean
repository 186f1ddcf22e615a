theorem RpO.congr {M M' : zM} {n : Nat} {r : Rl} (h : RpO M n r) (e1 : M'.1 (n + 1) = M.1 (n + 1)) (e2 : M'.1 (n + 2) = M.1 (n + 2)) (e3 : M'.1 (n + 3) = M.1 (n + 3)) : RpO M' n r := by
  unfold RpO at *
  rw [e1, e2, e3]
  exact h
theorem RpX.g {kd : Nat → Nat} {M M' : zM} {s : St} {r : Rl} {b : List Int} (h : RpX kd M s) (g1 : RpS (M'.1 2) r.1) (g2 : ∃ L, RpT (M'.1 3) L ∧ okH r.1 L r.2.1) (g3 : RpL (M'.1 4) r.2.2) (hB : RpB (M'.1 8) b) (hne : ∀ n, n = 0 ∨ 9 ≤ n → M'.1 n = M.1 n) (h2 : M'.2 = M.2) : RpX kd M' (r, s.2.1, b, s.2.2.2) ∧ fr9 M M' := by
  refine ⟨⟨⟨g1, g2, g3⟩, fun j hj => ⟨(h.2.1 j hj).1, fun r hr => ((h.2.1 j hj).2 r hr).congr (hne _ (by omega)) (hne _ (by omega)) (hne _ (by omega))⟩, hB, by rw [h2]; exact h.2.2.2.1, fun n hn => by rw [hne 0 (Or.inl rfl)]; exact h.2.2.2.2 n hn⟩, hne 9 (by omega), by rw [h2]⟩
theorem RpX.rf {kd : Nat → Nat} {M M' : zM} {s : St} {k : Nat} (h : RpX kd M s) (e : M' = zmw M 0 2 (upd (M.1 0 2) k (M.1 0 2 k + 1))) (hk : k < 3) : RpX kd M' (sRf s k) ∧ fr9 M M' := by
  rw [zmw_bs] at e
  have hne : ∀ n, n ≠ 0 → M'.1 n = M.1 n := fun n hn => by rw [e, zbs_ne hn]
  have h2 : M'.2 = M.2 := by rw [e]; rfl
  refine ⟨⟨h.1.congr (hne _ (by decide)) (hne _ (by decide)) (hne _ (by decide)), fun j hj => ⟨(h.2.1 j hj).1, fun r hr => ((h.2.1 j hj).2 r hr).congr (hne _ (by omega)) (hne _ (by omega)) (hne _ (by omega))⟩, by rw [hne 8 (by decide)]; exact h.2.2.1, by rw [h2]; exact h.2.2.2.1, fun n hn => ?_⟩, hne 9 (by decide), by rw [h2]⟩
  rw [e, zbs_at, zrw_at]
  simp only [sRf, upd]
  rw [h.2.2.2.2 n hn, h.2.2.2.2 k hk]
theorem rfq {kd : Nat → Nat} {M : zM} {s : St} {K : zK} {ev : Int × St} (hR : RpX kd M s) (hK : ∀ v : Int32, v.toInt = ev.1 → ∀ M' : zM, RpX kd M' ev.2 → fr9 M M' → K (some (zI v)) M') {w : Int32} (k : Nat) (z : Int) (hz : w.toInt = z ∧ k < 3 ∧ z = -2 - (k : Int)) (e : ev = (z, sRf s k)) : ∃ s2 : St, (RpX kd M s2) ∧ ∃ k2 : Nat, (k2 < 3 ∧ w.toInt = -2 - (k2 : Int)) ∧ ∀ v2 : Int32, (v2 = w) → ∀ M2 : zM, (RpX kd M2 (sRf s2 k2)) → (fr9 M M2) → K (some (zI v2)) M2 :=
  ⟨s, hR, k, ⟨hz.2.1, by omega⟩, fun v2 h2 M2 g f => hK v2 (by rw [h2, e]; exact hz.1) M2 (by rw [e]; exact g) f⟩
theorem rfc {kd : Nat → Nat} {M : zM} {s : St} {K : zK} {ev : Int × St} (hR : RpX kd M s) (hK : ∀ v : Int32, v.toInt = ev.1 → ∀ M' : zM, RpX kd M' ev.2 → fr9 M M' → K (some (zI v)) M') {w u : Int32} (k : Nat) (z : Int) (hz : u.toInt = z ∧ k < 3 ∧ w.toInt = -2 - (k : Int)) (e : ev = (z, sRf s k)) : ∃ s2 : St, (RpX kd M s2) ∧ ∃ k2 : Nat, (k2 < 3 ∧ w.toInt = -2 - (k2 : Int)) ∧ ∀ v2 : Int32, (v2 = w) → ∀ M2 : zM, (RpX kd M2 (sRf s2 k2)) → (fr9 M M2) → K (some (zI u)) M2 :=
  ⟨s, hR, k, hz.2, fun v2 h2 M2 g f => hK u (by rw [e]; exact hz.1) M2 (by rw [e]; exact g) f⟩
theorem okK {kd : Nat → Nat} {M : zM} {s : St} {K : zK} {ev : Int × St} (hR : RpX kd M s) (hK : ∀ v : Int32, v.toInt = ev.1 → ∀ M' : zM, RpX kd M' ev.2 → fr9 M M' → K (some (zI v)) M') {v : Int32} {z : Int} (hz : v.toInt = z) (e : ev = (z, s)) : K (some (zI v)) M := hK v (by rw [e]; exact hz) M (by rw [e]; exact hR) ⟨rfl, rfl⟩
/-! what may be undone -/
theorem okH.nil {a : Sk} : okH a [] [] := ⟨rfl, fun b h => by simp at h, fun i w b a' h => by simp at h⟩
theorem okH.tail {a : Sk} {L : List Int} {hs : List Sk} (h : okH a L hs) : okH a (L.drop 1) (hs.drop 1) := by
  refine ⟨by rw [List.length_drop, List.length_drop, h.1], fun b hb => h.2.1 b (List.mem_of_mem_drop hb), fun i w b a' h1 h2 h3 => ?_⟩
  rw [List.getElem?_drop] at h1 h2
  refine h.2.2 (1 + i) w b a' h1 h2 ?_
  have hlt := (List.getElem?_eq_some_iff.mp h2).1
  rw [← List.drop_append_of_le_length (by omega), List.getElem?_drop] at h3
  rw [← h3]
  congr 1
theorem okH.snoc {a a' : Sk} {w : Int} {L : List Int} {hs : List Sk} (h : okH a L hs) (ha : okSk a) (hs' : stp a w a') : okH a' (L ++ [w]) (hs ++ [a]) := by
  refine ⟨by rw [List.length_append, List.length_append, h.1]; rfl, fun b hb => ?_, fun i w' b c h1 h2 h3 => ?_⟩
  · rcases List.mem_append.mp hb with h1 | h1
    · exact h.2.1 b h1
    · simp at h1; rw [h1]; exact ha
  · have hlt := (List.getElem?_eq_some_iff.mp h1).1
    have hl := h.1
    rw [List.length_append, List.length_singleton] at hlt
    by_cases hi : i < L.length
    · rw [List.getElem?_append_left hi] at h1
      rw [List.getElem?_append_left (by omega)] at h2
      rw [List.getElem?_append_left (by rw [List.length_append, List.length_singleton]; omega)] at h3
      exact h.2.2 i w' b c h1 h2 h3
    · have hi2 : i = L.length := by omega
      subst hi2
      rw [List.getElem?_append_right (Nat.le_refl _)] at h1
      rw [List.getElem?_append_right (by omega)] at h2
      rw [List.getElem?_append_right (by rw [List.length_append, List.length_singleton]; omega)] at h3
      simp [hl] at h1 h2 h3
      rw [← h1, ← h2, ← h3]
      exact hs'
theorem okH.add {a a' : Sk} {w : Int} {L : List Int} {hs : List Sk} (h : okH a L hs) (ha : okSk a) (hs' : stp a w a') : okH a' (stAdd L w) (hAdd hs a) := by
  unfold stAdd hAdd
  rw [← h.1]
  split
  · exact h.snoc ha hs'
  · exact h.tail.snoc ha hs'
theorem okH.last {a : Sk} {L : List Int} {hs : List Sk} (h : okH a L hs) : (L = [] ∧ hs = []) ∨ ∃ L' w hs' b, L = L' ++ [w] ∧ hs = hs' ++ [b] ∧ stp b w a ∧ okSk b ∧ okH b L' hs' := by
  rcases List.eq_nil_or_concat L with e | ⟨L', w, e⟩
  · refine Or.inl ⟨e, ?_⟩
    have := h.1
    rw [e] at this
    exact List.eq_nil_of_length_eq_zero this.symm
  · rcases List.eq_nil_or_concat hs with e2 | ⟨hs', b, e2⟩
    · have := h.1
      rw [e, e2] at this
      simp at this
    · rw [List.concat_eq_append] at e e2
      subst e
      subst e2
      have hl : L'.length = hs'.length := by have := h.1; simp at this; exact this
      refine Or.inr ⟨L', w, hs', b, rfl, rfl, ?_, h.2.1 b (by simp), hl, fun c hc => h.2.1 c (by simp [hc]), fun i w' c d h1 h2 h3 => ?_⟩
      · refine h.2.2 L'.length w b a (by simp) (by rw [hl]; simp) ?_
        rw [List.getElem?_append_right (by simp; omega)]
        simp [hl]
      · have hi := (List.getElem?_eq_some_iff.mp h1).1
        refine h.2.2 i w' c d ?_ ?_ ?_
        · rw [List.getElem?_append_left hi]; exact h1
        · rw [List.getElem?_append_left (by omega)]; exact h2
        · rw [List.getElem?_append_left (by rw [List.length_append, List.length_singleton]; omega)]; exact h3
set_option maxRecDepth 20000 in
theorem mt_X7_isThing {kd : Nat → Nat} {K : zK} {X : zX} (hX : ∀ (n pc : Nat) (ls : zLS) (st : List zV) (M : zM), zrun (tb_X7_isThing kd K) [] n X pc ls st M → X pc ls st M) (c : Int32) (M : zM) (h : ∀ v : Int32, (v = zp (isT c.toInt)) → K (some (zI v)) M) : X 0 [some (zI (c))] [] M := by
  refine vc_X7_isThing_0 hX ⟨fun q => h _ (zp_f ?_).symm, fun q => ⟨fun q2 => h _ (zp_f ?_).symm, fun q2 => h _ (zp_t ?_).symm⟩⟩ <;> simp only [Int32.lt_iff_toInt_lt, Int32.le_iff_toInt_le, ← Int32.toInt_inj, Int32.toInt_add, Int32.toInt_sub, Int32.toInt_mul, Int32.toInt_neg, Int.bmod, Int32.reduceToInt] at * <;> omega
theorem ms_X7_isThing : zMS 1 yX7_isThing cX7_isThing 1 (some .boolean) sp_X7_isThing := by
  intro d hd
  obtain ⟨d', rfl⟩ : ∃ d', d = d' + 1 := ⟨d - 1, by omega⟩
  refine zmethod (tab := tb_X7_isThing) (cut := []) (by decide) (tk_X7_isThing d' ) ?_
  intro kd as M K h
  unfold sp_X7_isThing at h
  split at h
  · rename_i c
    exact ⟨Nat.le_of_ble_eq_true rfl, fun X hX => mt_X7_isThing hX c M h⟩
  · exact h.elim

set_option maxRecDepth 20000 in
theorem mt_X7_isYear {kd : Nat → Nat} {K : zK} {X : zX} (hX : ∀ (n pc : Nat) (ls : zLS) (st : List zV) (M : zM), zrun (tb_X7_isYear kd K) [] n X pc ls st M → X pc ls st M) (c : Int32) (M : zM) (h : ∀ v : Int32, (v = zp (isY c.toInt)) → K (some (zI v)) M) : X 0 [some (zI (c))] [] M := by
  refine vc_X7_isYear_0 hX ⟨fun q => h _ (zp_f ?_).symm, fun q => ⟨fun q2 => h _ (zp_f ?_).symm, fun q2 => h _ (zp_t ?_).symm⟩⟩ <;> simp only [Int32.lt_iff_toInt_lt, Int32.le_iff_toInt_le, ← Int32.toInt_inj, Int32.toInt_add, Int32.toInt_sub, Int32.toInt_mul, Int32.toInt_neg, Int.bmod, Int32.reduceToInt] at * <;> omega
theorem ms_X7_isYear : zMS 1 yX7_isYear cX7_isYear 1 (some .boolean) sp_X7_isYear := by
  intro d hd
  obtain ⟨d', rfl⟩ : ∃ d', d = d' + 1 := ⟨d - 1, by omega⟩
  refine zmethod (tab := tb_X7_isYear) (cut := []) (by decide) (tk_X7_isYear d' ) ?_
  intro kd as M K h
  unfold sp_X7_isYear at h
  split at h
  · rename_i c
    exact ⟨Nat.le_of_ble_eq_true rfl, fun X hX => mt_X7_isYear hX c M h⟩
  · exact h.elim

set_option maxRecDepth 20000 in
theorem mt_X7_isImage {kd : Nat → Nat} {K : zK} {X : zX} (hX : ∀ (n pc : Nat) (ls : zLS) (st : List zV) (M : zM), zrun (tb_X7_isImage kd K) [] n X pc ls st M → X pc ls st M) (c : Int32) (M : zM) (h : ∀ v : Int32, (v = zp (inn c.toInt 0 1)) → K (some (zI v)) M) : X 0 [some (zI (c))] [] M := by
  refine vc_X7_isImage_0 hX ⟨fun q => h _ (zp_f ?_).symm, fun q => ⟨fun q2 => h _ (zp_f ?_).symm, fun q2 => h _ (zp_t ?_).symm⟩⟩ <;> simp only [Int32.lt_iff_toInt_lt, Int32.le_iff_toInt_le, ← Int32.toInt_inj, Int32.toInt_add, Int32.toInt_sub, Int32.toInt_mul, Int32.toInt_neg, Int.bmod, Int32.reduceToInt] at * <;> omega
theorem ms_X7_isImage : zMS 1 yX7_isImage cX7_isImage 1 (some .boolean) sp_X7_isImage := by
  intro d hd
  obtain ⟨d', rfl⟩ : ∃ d', d = d' + 1 := ⟨d - 1, by omega⟩
  refine zmethod (tab := tb_X7_isImage) (cut := []) (by decide) (tk_X7_isImage d' ) ?_
  intro kd as M K h
  unfold sp_X7_isImage at h
  split at h
  · rename_i c
    exact ⟨Nat.le_of_ble_eq_true rfl, fun X hX => mt_X7_isImage hX c M h⟩
  · exact h.elim

set_option maxRecDepth 20000 in
theorem mt_X7_refuse {kd : Nat → Nat} {K : zK} {X : zX} (hX : ∀ (n pc : Nat) (ls : zLS) (st : List zV) (M : zM), zrun (tb_X7_refuse kd K) [] n X pc ls st M → X pc ls st M) (w : Int32) (M : zM) (h : (kd 0 = 1) ∧ ∃ s : St, (RpX kd M s) ∧ ∃ k : Nat, (k < 3 ∧ w.toInt = -2 - (k : Int)) ∧ ∀ v : Int32, (v = w) → ∀ M' : zM, (RpX kd M' (sRf s k)) → (fr9 M M') → K (some (zI v)) M') : X 0 [some (zR 0 0), some (zI (w)), none] [] M := by
  obtain ⟨hk, s, hR, k, hw, hK⟩ := h
  have hat : ((-2 : Int32) - w).toInt = (k : Int) := by simp only [Int32.lt_iff_toInt_lt, Int32.le_iff_toInt_le, ← Int32.toInt_inj, Int32.toInt_add, Int32.toInt_sub, Int32.toInt_mul, Int32.toInt_neg, Int.bmod, Int32.reduceToInt]; omega
  have hnc : ((-2 : Int32) - w).toNatClampNeg = k := by rw [z_cl]; omega
  have hz : zin (kd 0) 2 0 ((-2 : Int32) - w) := zin_of (n := 3) (by rw [hk]; rfl) (by omega) (by omega)
  refine vc_X7_refuse_0 hX hk (fun v1 h1 => ⟨fun q => ?_, fun _ => ⟨hz, hz, fun M2 e2 => ?_⟩⟩)
  · rw [h1, zp_0, hat] at q
    exact absurd ⟨show (0 : Int) ≤ k by omega, show (k : Int) ≤ 2 by omega⟩ q
  · rw [hnc] at e2
    have := hR.rf e2 hw.1
    exact hK _ rfl M2 this.1 this.2
theorem ms_X7_refuse : zMS 2 yX7_refuse cX7_refuse 3 (some .int) sp_X7_refuse := by
  intro d hd
  obtain ⟨d', rfl⟩ : ∃ d', d = d' + 2 := ⟨d - 2, by omega⟩
  refine zmethod (tab := tb_X7_refuse) (cut := []) (by decide) (tk_X7_refuse d' ms_X7_within) ?_
  intro kd as M K h
  unfold sp_X7_refuse at h
  split at h
  · rename_i w
    exact ⟨Nat.le_of_ble_eq_true rfl, fun X hX => mt_X7_refuse hX w M h⟩
  · exact h.elim

set_option maxRecDepth 20000 in
theorem mt_X7_roll {kd : Nat → Nat} {K : zK} {X : zX} (hX : ∀ (n pc : Nat) (ls : zLS) (st : List zV) (M : zM), zrun (tb_X7_roll kd K) [] n X pc ls st M → X pc ls st M)  (M : zM) (h : (kd 0 = 1) ∧ (KdX kd) ∧ ∃ s : St, (RpX kd M s) ∧ ∀ v : Int32, (v.toInt = (ev_roll s).1) → ∀ M' : zM, (RpX kd M' (ev_roll s).2) → (fr9 M M') → K (some (zI v)) M') : X 0 [some (zR 0 0), none] [] M := by
  obtain ⟨_, hk, s, hR, hK⟩ := h
  obtain ⟨k0, k1, k2, k3, k4, k5, k6, k7, k8, ki⟩ := id hk
  refine vc_X7_roll_0 hX k4 k3 k2 k1 k0 k2 ⟨s.1.1, hR.1.1, fun v1 h1 S1 g1 S2 g2 S3 g3 M2 e2 => ?_⟩
  have e2 : M2 = zbs (zbs (zbs M 2 S1) 3 S2) 4 S3 := e2
  have := hR.g (M' := M2) (r := (sk_0, [], [])) (b := s.2.2.1) (by rw [e2, zbs_ne (by decide), zbs_ne (by decide), zbs_at]; exact g1) ⟨[], by rw [e2, zbs_ne (by decide), zbs_at]; exact g2, okH.nil⟩ (by rw [e2, zbs_at]; exact g3) (by rw [e2, zbs_ne (by decide), zbs_ne (by decide), zbs_ne (by decide)]; exact hR.2.2.1) (fun n hn => by rw [e2, zbs_ne (by omega), zbs_ne (by omega), zbs_ne (by omega)]) (by rw [e2]; rfl)
  exact hK _ h1 M2 this.1 this.2
theorem ms_X7_roll : zMS 3 yX7_roll cX7_roll 2 (some .int) sp_X7_roll := by
  intro d hd
  obtain ⟨d', rfl⟩ : ∃ d', d = d' + 3 := ⟨d - 3, by omega⟩
  refine zmethod (tab := tb_X7_roll) (cut := []) (by decide) (tk_X7_roll d' ms_X3_layersInAll ms_X2_wipe) ?_
  intro kd as M K h
  unfold sp_X7_roll at h
  split at h
  · skip
    exact ⟨Nat.le_of_ble_eq_true rfl, fun X hX => mt_X7_roll hX  M h⟩
  · exact h.elim

set_option maxRecDepth 20000 in
theorem mt_X7_write {kd : Nat → Nat} {K : zK} {X : zX} (hX : ∀ (n pc : Nat) (ls : zLS) (st : List zV) (M : zM), zrun (tb_X7_write kd K) [] n X pc ls st M → X pc ls st M) (c : Int32) (k : Int32) (g : Int32) (e : Int32) (M : zM) (h : (kd 0 = 1) ∧ (KdX kd) ∧ ∃ s : St, (RpX kd M s) ∧ ∀ v : Int32, (v.toInt = (ev_write s c.toInt k.toInt g.toInt e.toInt).1) → ∀ M' : zM, (RpX kd M' (ev_write s c.toInt k.toInt g.toInt e.toInt).2) → (fr9 M M') → K (some (zI v)) M') : X 0 [some (zR 0 0), some (zI (c)), some (zI (k)), some (zI (g)), some (zI (e))] [] M := by
  obtain ⟨_, hk, s, hR, hK⟩ := h
  obtain ⟨k0, k1, k2, k3, k4, k5, k6, k7, k8, ki⟩ := id hk
  have ha := hR.1.1
  obtain ⟨L, hL, hH⟩ := hR.1.2.1
  refine vc_X7_write_0 hX k0 k2 k1 k3 (fun v1 h1 => ⟨fun q => ?_, fun q1 v3 h3 => ⟨fun q => ?_, fun q3 v5 h5 => ⟨fun q => ?_, fun q5 v7 h7 => ⟨fun q7 => ⟨s.1.1, ha, fun v8 h8 => ⟨fun q8 => ⟨s.1.1, ha, fun v9 h9 => ⟨fun q9 => ⟨L, hL, fun S10 g10 M10 e10 => ?_⟩, fun q9 => ?_⟩⟩, fun q8 => ?_⟩⟩, fun q => ?_⟩⟩⟩⟩)
  · rw [h1, zp_0] at q
    exact rfq hR hK 0 (-2) (by decide) (by unfold ev_write; rw [if_neg (fun x => q x.1)])
  · rw [h3, zp_0] at q
    exact rfq hR hK 0 (-2) (by decide) (by unfold ev_write; rw [if_neg (fun x => q x.2.1)])
  · rw [h5, zp_0] at q
    exact rfq hR hK 0 (-2) (by decide) (by unfold ev_write; rw [if_neg (fun x => q x.2.2.1)])
  · rw [h1, zp_n] at q1
    rw [h3, zp_n] at q3
    rw [h5, zp_n] at q5
    rw [h7, zp_n] at q7
    rw [h8, zp_0] at q8
    rw [h9, zp_n] at q9
    have hW := sk_canW_iff.mp q9
    have q3' : 0 ≤ k.toInt ∧ k.toInt ≤ 5 := q3
    have q7' : 0 ≤ e.toInt ∧ e.toInt ≤ 1 := q7
    refine ⟨s.1.1, by rw [e10, zbs_ne (by decide)]; exact ha, q1, hW.2.1, q3', by unfold isT at q5; omega, by omega, fun v11 h11 S11 g11 M11 e11 => ?_⟩
    rw [e10] at e11
    have hev : ev_write s c.toInt k.toInt g.toInt e.toInt = (sk_len s.1.1 c.toInt, sRo s (rlDo s.1 (sk_wr s.1.1 c.toInt k.toInt g.toInt e.toInt))) := by
      unfold ev_write
      rw [if_pos ⟨q1, q3', q5, q7'⟩, if_neg q8, if_pos hW.2.2]
    have hw : ((10 : Int32) + c).toInt = 10 + c.toInt := by simp only [Int32.lt_iff_toInt_lt, Int32.le_iff_toInt_le, ← Int32.toInt_inj, Int32.toInt_add, Int32.toInt_sub, Int32.toInt_mul, Int32.toInt_neg, Int.bmod, Int32.reduceToInt]; omega
    have := hR.g (M' := M11) (r := rlDo s.1 (sk_wr s.1.1 c.toInt k.toInt g.toInt e.toInt)) (b := s.2.2.1) (by rw [e11, zbs_at]; exact g11) ⟨_, by rw [e11, zbs_ne (by decide), zbs_at]; exact g10, hH.add ha.1 (by
      unfold stp sk_aft
      rw [if_pos (by omega), if_neg (by omega), hw]
      rw [show 10 + c.toInt - 10 = c.toInt by omega]
      exact ⟨by omega, hW.1, hW.2.2, _, _, _, rfl⟩)⟩ (by rw [e11, zbs_ne (by decide), zbs_ne (by decide)]; exact hR.1.2.2) (by rw [e11, zbs_ne (by decide), zbs_ne (by decide)]; exact hR.2.2.1) (fun n hn => by rw [e11, zbs_ne (by omega), zbs_ne (by omega)]) (by rw [e11]; rfl)
    rw [if_pos hW.2.2] at h11
    exact hK _ (by rw [hev]; exact h11) M11 (by rw [hev]; exact this.1) this.2
  · rw [h1, zp_n] at q1
    rw [h3, zp_n] at q3
    rw [h5, zp_n] at q5
    rw [h7, zp_n] at q7
    rw [h8, zp_0] at q8
    rw [h9, zp_0] at q9
    exact rfq hR hK 2 (-4) (by decide) (by
      unfold ev_write
      rw [if_pos ⟨q1, q3, q5, q7⟩, if_neg q8, if_neg (fun x => q9 (sk_canW_iff.mpr ⟨q1, by simpa using q8, x⟩))])
  · rw [h1, zp_n] at q1
    rw [h3, zp_n] at q3
    rw [h5, zp_n] at q5
    rw [h7, zp_n] at q7
    rw [h8, zp_n] at q8
    exact rfq hR hK 1 (-3) (by decide) (by
      unfold ev_write
      rw [if_pos ⟨q1, q3, q5, q7⟩, if_pos q8])
  · rw [h7, zp_0] at q
    exact rfq hR hK 0 (-2) (by decide) (by unfold ev_write; rw [if_neg (fun x => q x.2.2.2)])
theorem ms_X7_write : zMS 4 yX7_write cX7_write 5 (some .int) sp_X7_write := by
  intro d hd
  obtain ⟨d', rfl⟩ : ∃ d', d = d' + 4 := ⟨d - 4, by omega⟩
  refine zmethod (tab := tb_X7_write) (cut := []) (by decide) (tk_X7_write d' ms_X7_isCell ms_X7_within ms_X7_isThing ms_X7_refuse ms_X3_canScrape ms_X3_canCover ms_X4_add ms_X3_cover) ?_
  intro kd as M K h
  unfold sp_X7_write at h
  split at h
  · rename_i c k g e
    exact ⟨Nat.le_of_ble_eq_true rfl, fun X hX => mt_X7_write hX c k g e M h⟩
  · exact h.elim

set_option maxRecDepth 20000 in
theorem mt_X7_rub {kd : Nat → Nat} {K : zK} {X : zX} (hX : ∀ (n pc : Nat) (ls : zLS) (st : List zV) (M : zM), zrun (tb_X7_rub kd K) [] n X pc ls st M → X pc ls st M) (c : Int32) (M : zM) (h : (kd 0 = 1) ∧ (KdX kd) ∧ ∃ s : St, (RpX kd M s) ∧ ∀ v : Int32, (v.toInt = (ev_rub s c.toInt).1) → ∀ M' : zM, (RpX kd M' (ev_rub s c.toInt).2) → (fr9 M M') → K (some (zI v)) M') : X 0 [some (zR 0 0), some (zI (c))] [] M := by
  obtain ⟨_, hk, s, hR, hK⟩ := h
  obtain ⟨k0, k1, k2, k3, k4, k5, k6, k7, k8, ki⟩ := id hk
  have ha := hR.1.1
  obtain ⟨L, hL, hH⟩ := hR.1.2.1
  refine vc_X7_rub_0 hX k2 k1 k0 k3 (fun v1 h1 => ⟨fun q1 => ⟨s.1.1, ha, fun v2 h2 => ⟨fun q2 => ⟨L, hL, fun S3 g3 M3 e3 => ?_⟩, fun q2 => ?_⟩⟩, fun q => ?_⟩)
  · rw [h1, zp_n] at q1
    rw [h2, zp_n] at q2
    obtain ⟨l, hl, hl1⟩ := sk_canR_iff.mp q2
    refine ⟨s.1.1, by rw [e3, zbs_ne (by decide)]; exact ha, l, hl, hl1, fun v4 h4 S4 g4 M4 e4 => ?_⟩
    rw [e3] at e4
    have hev : ev_rub s c.toInt = (s.1.1.2 - l.2.2.2.1, sRo s (rlDo s.1 (sk_rub s.1.1 c.toInt))) := by
      unfold ev_rub
      rw [if_pos q1, if_pos q2, hl]
    have := hR.g (M' := M4) (r := rlDo s.1 (sk_rub s.1.1 c.toInt)) (b := s.2.2.1) (by rw [e4, zbs_at]; exact g4) ⟨_, by rw [e4, zbs_ne (by decide), zbs_at]; exact g3, hH.add ha.1 (by
      unfold stp sk_aft
      rw [if_pos (by omega), if_pos (by omega)]
      exact ⟨by omega, q2, rfl⟩)⟩ (by rw [e4, zbs_ne (by decide), zbs_ne (by decide)]; exact hR.1.2.2) (by rw [e4, zbs_ne (by decide), zbs_ne (by decide)]; exact hR.2.2.1) (fun n hn => by rw [e4, zbs_ne (by omega), zbs_ne (by omega)]) (by rw [e4]; rfl)
    exact hK _ (by rw [hev]; exact h4) M4 (by rw [hev]; exact this.1) this.2
  · rw [h1, zp_n] at q1
    rw [h2, zp_0] at q2
    exact rfq hR hK 1 (-3) (by decide) (by unfold ev_rub; rw [if_pos q1, if_neg q2])
  · rw [h1, zp_0] at q
    exact rfq hR hK 0 (-2) (by decide) (by unfold ev_rub; rw [if_neg q])
theorem ms_X7_rub : zMS 4 yX7_rub cX7_rub 2 (some .int) sp_X7_rub := by
  intro d hd
  obtain ⟨d', rfl⟩ : ∃ d', d = d' + 4 := ⟨d - 4, by omega⟩
  refine zmethod (tab := tb_X7_rub) (cut := []) (by decide) (tk_X7_rub d' ms_X7_isCell ms_X7_refuse ms_X3_canScrape ms_X4_add ms_X3_scrape) ?_
  intro kd as M K h
  unfold sp_X7_rub at h
  split at h
  · rename_i c
    exact ⟨Nat.le_of_ble_eq_true rfl, fun X hX => mt_X7_rub hX c M h⟩
  · exact h.elim

set_option maxRecDepth 20000 in
theorem mt_X7_years {kd : Nat → Nat} {K : zK} {X : zX} (hX : ∀ (n pc : Nat) (ls : zLS) (st : List zV) (M : zM), zrun (tb_X7_years kd K) [] n X pc ls st M → X pc ls st M) (n : Int32) (M : zM) (h : (kd 0 = 1) ∧ (KdX kd) ∧ ∃ s : St, (RpX kd M s) ∧ ∀ v : Int32, (v.toInt = (ev_years s n.toInt).1) → ∀ M' : zM, (RpX kd M' (ev_years s n.toInt).2) → (fr9 M M') → K (some (zI v)) M') : X 0 [some (zR 0 0), some (zI (n))] [] M := by
  obtain ⟨_, hk, s, hR, hK⟩ := h
  obtain ⟨k0, k1, k2, k3, k4, k5, k6, k7, k8, ki⟩ := id hk
  have ha := hR.1.1
  have hy : (M.1 2 0 6).toInt = s.1.1.2 := ha.2.2
  have hyb := ha.1.1
  obtain ⟨L, hL, hH⟩ := hR.1.2.1
  refine vc_X7_years_0 hX k2 k1 k0 k3 (fun v1 h1 => ⟨fun q1 => ⟨L, hL, fun S2 g2 M2 e2 => ⟨s.1.1, by rw [e2, zbs_ne (by decide)]; exact ha, ?_, fun S3 g3 M3 e3 => ?_⟩⟩, fun q => ?_⟩)
  · rw [h1, zp_n] at q1
    have q' : 1 ≤ n.toInt ∧ n.toInt ≤ 99 := q1
    omega
  · rw [h1, zp_n] at q1
    have q' : 1 ≤ n.toInt ∧ n.toInt ≤ 99 := q1
    rw [e2] at e3
    have hev : ev_years s n.toInt = ((sk_yr s.1.1 n.toInt).2, sRo s (rlDo s.1 (sk_yr s.1.1 n.toInt))) := by
      unfold ev_years
      rw [if_pos q']
    have hw : ((100 : Int32) + (M.1 2 0 6)).toInt = 100 + s.1.1.2 := by simp only [Int32.lt_iff_toInt_lt, Int32.le_iff_toInt_le, ← Int32.toInt_inj, Int32.toInt_add, Int32.toInt_sub, Int32.toInt_mul, Int32.toInt_neg, Int.bmod, Int32.reduceToInt]; omega
    have := hR.g (M' := M3) (r := rlDo s.1 (sk_yr s.1.1 n.toInt)) (b := s.2.2.1) (by rw [e3, zbs_at]; exact g3) ⟨_, by rw [e3, zbs_ne (by decide), zbs_at]; exact g2, hH.add ha.1 (by
      unfold stp
      rw [if_neg (by omega), hw]
      exact ⟨rfl, rfl⟩)⟩ (by rw [e3, zbs_ne (by decide), zbs_ne (by decide)]; exact hR.1.2.2) (by rw [e3, zbs_ne (by decide), zbs_ne (by decide)]; exact hR.2.2.1) (fun n hn => by rw [e3, zbs_ne (by omega), zbs_ne (by omega)]) (by rw [e3]; rfl)
    exact hK _ (by rw [hev, e3, zbs_at]; exact g3.2.2) M3 (by rw [hev]; exact this.1) this.2
  · rw [h1, zp_0] at q
    have q' : ¬ (1 ≤ n.toInt ∧ n.toInt ≤ 99) := q
    exact rfq hR hK 0 (-2) (by decide) (by unfold ev_years; rw [if_neg q'])
theorem ms_X7_years : zMS 3 yX7_years cX7_years 2 (some .int) sp_X7_years := by
  intro d hd
  obtain ⟨d', rfl⟩ : ∃ d', d = d' + 3 := ⟨d - 3, by omega⟩
  refine zmethod (tab := tb_X7_years) (cut := []) (by decide) (tk_X7_years d' ms_X7_within ms_X7_refuse ms_X4_add ms_X3_pass) ?_
  intro kd as M K h
  unfold sp_X7_years at h
  split at h
  · rename_i n
    exact ⟨Nat.le_of_ble_eq_true rfl, fun X hX => mt_X7_years hX n M h⟩
  · exact h.elim

set_option maxRecDepth 20000 in
theorem mt_X7_undo {kd : Nat → Nat} {K : zK} {X : zX} (hX : ∀ (n pc : Nat) (ls : zLS) (st : List zV) (M : zM), zrun (tb_X7_undo kd K) [] n X pc ls st M → X pc ls st M)  (M : zM) (h : (kd 0 = 1) ∧ (KdX kd) ∧ ∃ s : St, (RpX kd M s) ∧ ∀ v : Int32, (v.toInt = (ev_undo s).1) → ∀ M' : zM, (RpX kd M' (ev_undo s).2) → (fr9 M M') → K (some (zI v)) M') : X 0 [some (zR 0 0), none] [] M := by
  obtain ⟨_, hk, s, hR, hK⟩ := h
  obtain ⟨k0, k1, k2, k3, k4, k5, k6, k7, k8, ki⟩ := id hk
  have ha := hR.1.1
  obtain ⟨L, hL, hH⟩ := hR.1.2.1
  refine vc_X7_undo_0 hX k2 k1 k0 k3 ⟨L, hL, fun v1 h1 S1 g1 M1 e1 => ?_⟩
  rcases hH.last with ⟨e, e'⟩ | ⟨L', w, hs', b, e, e', hst, hb, hH'⟩
  · have hv : v1.toInt = -1 := by rw [h1, e]; rfl
    refine ⟨fun q => absurd (Int32.toInt_inj.mp (by rw [hv]; rfl)) q, fun _ => ?_⟩
    have hR1 := hR.g (M' := M1) (r := s.1) (b := s.2.2.1) (by rw [e1, zbs_ne (by decide)]; exact ha) ⟨_, by rw [e1, zbs_at]; exact g1, by rw [e, e']; exact okH.nil⟩ (by rw [e1, zbs_ne (by decide)]; exact hR.1.2.2) (by rw [e1, zbs_ne (by decide)]; exact hR.2.2.1) (fun n hn => by rw [e1, zbs_ne (by omega)]) (by rw [e1]; rfl)
    have hev : ev_undo s = (-3, sRf s 1) := by unfold ev_undo; rw [e']; rfl
    exact rfq (s := s) (ev := ev_undo s) hR1.1 (fun v hv M' hM' hf => hK v hv M' hM' ⟨by rw [hf.1, hR1.2.1], by rw [hf.2, hR1.2.2]⟩) 1 (-3) (by decide) hev
  · have hv : v1.toInt = w := by rw [h1, e]; simp
    have hev : ev_undo s = (b.2, sRo s (b, hs', s.1.2.2)) := by unfold ev_undo; rw [e']; simp
    rw [e] at g1
    have g1' : RpT S1 L' := by simpa using g1
    unfold stp at hst
    refine ⟨fun _ => ⟨fun q => ?_, fun q M3 e3 => ?_⟩, fun q => ?_⟩
    · have q' : w < 100 := by rw [Int32.lt_iff_toInt_lt, hv] at q; exact q
      rw [if_pos q'] at hst
      refine ⟨s.1.1, by rw [e1, zbs_ne (by decide)]; exact ha, b, hb, by rw [hv]; exact hst.1, by rw [hv]; exact hst.2, fun S2 g2 M2 e2 => ?_⟩
      rw [e1] at e2
      have := hR.g (M' := M2) (r := (b, hs', s.1.2.2)) (b := s.2.2.1) (by rw [e2, zbs_at]; exact g2) ⟨_, by rw [e2, zbs_ne (by decide), zbs_at]; exact g1', hH'⟩ (by rw [e2, zbs_ne (by decide), zbs_ne (by decide)]; exact hR.1.2.2) (by rw [e2, zbs_ne (by decide), zbs_ne (by decide)]; exact hR.2.2.1) (fun n hn => by rw [e2, zbs_ne (by omega), zbs_ne (by omega)]) (by rw [e2]; rfl)
      exact hK _ (by rw [hev, e2, zbs_at]; exact g2.2.2) M2 (by rw [hev]; exact this.1) this.2
    · have q' : ¬ w < 100 := by rw [Int32.lt_iff_toInt_lt, hv] at q; exact q
      rw [if_neg q'] at hst
      rw [zmw_bs, e1, zbs_ne (by decide)] at e3
      have hb2 := hb.1
      have hw : (v1 - (100 : Int32)).toInt = b.2 := by simp only [Int32.lt_iff_toInt_lt, Int32.le_iff_toInt_le, ← Int32.toInt_inj, Int32.toInt_add, Int32.toInt_sub, Int32.toInt_mul, Int32.toInt_neg, Int.bmod, Int32.reduceToInt]; omega
      have g2 : RpS (zrw (M.1 2) 0 (upd (M.1 2 0) 6 (v1 - (100 : Int32)))) b := by
        refine ⟨hb, fun c hc => ?_, by rw [zf_at]; exact hw⟩
        rw [zrw_ne (by decide), ← hst.2]
        refine ⟨(ha.2.1 c hc).1, fun i l hl => ?_⟩
        have := (ha.2.1 c hc).2 i l hl
        unfold lyS at *
        rw [zrw_ne (by decide), zrw_ne (by decide), zrw_ne (by decide), zrw_ne (by decide), zrw_ne (by decide)]
        exact this
      have := hR.g (M' := M3) (r := (b, hs', s.1.2.2)) (b := s.2.2.1) (by rw [e3, zbs_at]; exact g2) ⟨_, by rw [e3, zbs_ne (by decide), zbs_at]; exact g1', hH'⟩ (by rw [e3, zbs_ne (by decide), zbs_ne (by decide)]; exact hR.1.2.2) (by rw [e3, zbs_ne (by decide), zbs_ne (by decide)]; exact hR.2.2.1) (fun n hn => by rw [e3, zbs_ne (by omega), zbs_ne (by omega)]) (by rw [e3]; rfl)
      exact hK _ (by rw [hev, e3, zbs_at]; exact g2.2.2) M3 (by rw [hev]; exact this.1) this.2
    · rw [← Int32.toInt_inj, hv] at q
      have q' : w = -1 := q
      rw [if_pos (by omega)] at hst
      omega
theorem ms_X7_undo : zMS 4 yX7_undo cX7_undo 2 (some .int) sp_X7_undo := by
  intro d hd
  obtain ⟨d', rfl⟩ : ∃ d', d = d' + 4 := ⟨d - 4, by omega⟩
  refine zmethod (tab := tb_X7_undo) (cut := []) (by decide) (tk_X7_undo d' ms_X4_takeLast ms_X7_refuse ms_X3_takeBack) ?_
  intro kd as M K h
  unfold sp_X7_undo at h
  split at h
  · skip
    exact ⟨Nat.le_of_ble_eq_true rfl, fun X hX => mt_X7_undo hX  M h⟩
  · exact h.elim

