set_option maxRecDepth 20000 in
theorem mt_X8_layTurn {kd : Nat → Nat} {K : zK} {X : zX} (hX : ∀ (n pc : Nat) (ls : zLS) (st : List zV) (M : zM), zrun (tb_X8_layTurn kd K) [] n X pc ls st M → X pc ls st M) (t : Int32) (M : zM) (h : (kd 9 = 8) ∧ (0 ≤ t.toInt ∧ t.toInt < 4) ∧ ∀ M' : zM, (ltn M t.toInt.toNat M') → K none M') : X 0 [some (zR 9 0), some (zI (t))] [] M := by
  obtain ⟨hk, ht, hK⟩ := h
  have zz : ∀ o, o = 7 ∨ o = 8 → zin (kd 9) o 0 t := fun o ho => zin_of (n := 4) (by rw [hk]; rcases ho with rfl | rfl <;> rfl) ht.1 ht.2
  refine vc_X8_layTurn_0 hX hk ⟨ht, fun f1 h1 h2 M1 e1 => ⟨zz 7 (Or.inl rfl), fun M2 e2 => ⟨zz 8 (Or.inr rfl), fun M3 e3 => hK M3 ⟨f1, h1, h2, ?_⟩⟩⟩⟩
  rw [z_cl] at e2 e3
  have g8 : M2.1 9 8 = M.1 9 8 := by rw [e2, zmw_o (by decide), e1, zmw_o (by decide)]
  have g7 : M1.1 9 7 = M.1 9 7 := by rw [e1, zmw_o (by decide)]
  rw [e3, g8, e2, g7, e1]
theorem ms_X8_layTurn : zMS 2 yX8_layTurn cX8_layTurn 2 none sp_X8_layTurn := by
  intro d hd
  obtain ⟨d', rfl⟩ : ∃ d', d = d' + 2 := ⟨d - 2, by omega⟩
  refine zmethod (tab := tb_X8_layTurn) (cut := []) (by decide) (tk_X8_layTurn d' ms_X8_laySkin) ?_
  intro kd as M K h
  unfold sp_X8_layTurn at h
  split at h
  · rename_i t
    exact ⟨Nat.le_of_ble_eq_true rfl, fun X hX => mt_X8_layTurn hX t M h⟩
  · exact h.elim

theorem z_m2 : ∀ n, n < 4 → ((nI n - nI n / (2 : Int32) * (2 : Int32)) = 0 ↔ n % 2 = 0) := by decide +kernel
set_option maxRecDepth 20000 in
theorem mt_X8_judge {kd : Nat → Nat} {K : zK} {X : zX} (hX : ∀ (n pc : Nat) (ls : zLS) (st : List zV) (M : zM), zrun (tb_X8_judge kd K) [(45, [])] n X pc ls st M → X pc ls st M) (t : Int32) (v : Int32) (M : zM) (h : (kd 9 = 8) ∧ (0 ≤ t.toInt ∧ t.toInt < 4) ∧ ∀ M' : zM, (M' = jdg M t.toInt.toNat v) → K none M') : X 0 [some (zR 9 0), some (zI (t)), some (zI (v)), none] [] M := by
  obtain ⟨hk, ht, hK⟩ := h
  obtain ⟨tn, htn⟩ : ∃ tn : Nat, t.toInt = tn := ⟨t.toInt.toNat, by omega⟩
  have htt : t.toInt.toNat = tn := by omega
  rw [htt] at hK
  have tc : t.toNatClampNeg = tn := by rw [z_cl, htt]
  have t0 : t = 0 ↔ tn = 0 := by rw [← Int32.toInt_inj, htn]; show (tn : Int) = 0 ↔ _; omega
  have zz : ∀ o, o = 7 ∨ o = 8 → zin (kd 9) o 0 t := fun o ho => zin_of (n := 4) (by rw [hk]; rcases ho with rfl | rfl <;> rfl) ht.1 ht.2
  have z7 := zz 7 (Or.inl rfl)
  have z8 := zz 8 (Or.inr rfl)
  have z70 : zin (kd 9) 7 0 (0 : Int32) := zin_of (n := 4) (by rw [hk]; rfl) (by decide) (by decide)
  have fin : ∀ (b : Int32) (x : Bool), (¬ b = 0 ↔ x = true) → bet (M.1 9 8 tn) tn v = x → X 45 [some (zR 9 0), some (zI t), some (zI v), some (zI b)] [] M := by
    intro b x hx hb
    refine vc_X8_judge_45 hX hk ?_
    rw [tc]
    by_cases b0 : b = 0
    · have hf : x = false := by
        cases x with
        | false => rfl
        | true => exact absurd b0 (hx.mpr rfl)
      refine ⟨fun _ => ⟨z8, z8, fun M1 e1 => ⟨fun _ M2 e2 => ⟨z7, z7, fun M3 e3 => hK M3 ?_⟩, fun q => absurd b0 q⟩⟩, fun q => absurd b0 q⟩
      have g27 : M2.1 9 7 = M.1 9 7 := by rw [e2, zmw_o (by decide), e1, zmw_o (by decide)]
      have g10 : M1.1 9 0 = M.1 9 0 := by rw [e1, zmw_o (by decide)]
      unfold jdg
      rw [hb, hf, e3, g27, e2, g10, e1]
      rfl
    · have hf : x = true := hx.mp b0
      refine ⟨fun q => absurd q b0, fun _ => ⟨z8, fun M1 e1 => ⟨fun q => absurd q b0, fun _ => ⟨fun qt M2 e2 => ⟨z7, z7, fun M3 e3 => hK M3 ?_⟩, fun qt => ⟨z70, fun M2 e2 => ⟨z7, z7, fun M3 e3 => hK M3 ?_⟩⟩⟩⟩⟩⟩
      · rw [t0] at qt
        have g27 : M2.1 9 7 = M.1 9 7 := by rw [e2, zmw_o (by decide), e1, zmw_o (by decide)]
        have g10 : M1.1 9 0 = M.1 9 0 := by rw [e1, zmw_o (by decide)]
        unfold jdg
        rw [hb, hf, decide_eq_false qt, e3, g27, e2, g10, e1]
        rfl
      · rw [t0] at qt
        have g27 : M2.1 9 7 = M.1 9 7 := by rw [e2, zmw_o (by decide), e1, zmw_o (by decide)]
        have g10 : M1.1 9 0 = M.1 9 0 := by rw [e1, zmw_o (by decide)]
        have g17 : M1.1 9 7 = M.1 9 7 := by rw [e1, zmw_o (by decide)]
        unfold jdg
        rw [hb, hf, decide_eq_true qt, e3, g27, e2, g10, g17, e1]
        rfl
  have hm : (t - t / (2 : Int32) * (2 : Int32)) = 0 ↔ tn % 2 = 0 := by rw [z_nI htn]; exact z_m2 tn (by omega)
  refine vc_X8_judge_0 hX hk ?_
  rw [tc]
  refine ⟨z8, fun q => fin 1 true (by decide) ?_, fun q => ⟨fun qm => ⟨z8, fun ql => fin 0 false (by decide) ?_, fun ql => fin 1 true (by decide) ?_⟩, fun qm => ⟨z8, fun ql => fin 0 false (by decide) ?_, fun ql => fin 1 true (by decide) ?_⟩⟩⟩ <;> unfold bet
  · rw [decide_eq_true q]; rfl
  · rw [hm] at qm
    rw [decide_eq_false q, if_neg qm, decide_eq_false (Int32.not_lt.mpr ql)]; rfl
  · rw [hm] at qm
    rw [decide_eq_false q, if_neg qm, decide_eq_true (Int32.not_le.mp ql)]; rfl
  · rw [hm] at qm
    rw [decide_eq_false q, if_pos qm, decide_eq_false (Int32.not_lt.mpr ql)]; rfl
  · rw [hm] at qm
    rw [decide_eq_false q, if_pos qm, decide_eq_true (Int32.not_le.mp ql)]; rfl
theorem ms_X8_judge : zMS 1 yX8_judge cX8_judge 4 none sp_X8_judge := by
  intro d hd
  obtain ⟨d', rfl⟩ : ∃ d', d = d' + 1 := ⟨d - 1, by omega⟩
  refine zmethod (tab := tb_X8_judge) (cut := [(45, [])]) (by decide) (tk_X8_judge d' ) ?_
  intro kd as M K h
  unfold sp_X8_judge at h
  split at h
  · rename_i t v
    exact ⟨Nat.le_of_ble_eq_true rfl, fun X hX => mt_X8_judge hX t v M h⟩
  · exact h.elim

theorem ltn.f {M M' : zM} {t : Nat} (h : ltn M t M') : scr M M' ∧ M'.1 9 5 = M.1 9 5 ∧ M'.1 9 0 = M.1 9 0 ∧ M'.1 9 7 = upd (M.1 9 7) t 0 ∧ M'.1 9 8 = upd (M.1 9 8) t (-1) ∧ (∀ j, j < 127 → M'.1 9 6 (127 * t + j) = M.1 9 5 j) ∧ (∀ j, j < 127 * t → M'.1 9 6 j = M.1 9 6 j) := by
  obtain ⟨f6, h1, h2, e⟩ := h
  have g6 : M'.1 9 6 = f6 := by rw [e, zmw_o (by decide), zmw_o (by decide), zmw_at]
  refine ⟨((scr_mw (o := 6) (by decide) rfl).tr (scr_mw (o := 7) (by decide) rfl)).tr (scr_mw (o := 8) (by decide) e), ?_, ?_, ?_, ?_, fun j hj => by rw [g6, h1 j hj], fun j hj => by rw [g6, h2 j (Or.inl hj)]⟩
  · rw [e, zmw_o (by decide), zmw_o (by decide), zmw_o (by decide)]
  · rw [e, zmw_o (by decide), zmw_o (by decide), zmw_o (by decide)]
  · rw [e, zmw_o (by decide), zmw_at]
  · rw [e, zmw_at]
theorem jdg_f {M M' : zM} {t : Nat} {v : Int32} (e : M' = jdg M t v) : scr M M' ∧ M'.1 9 5 = M.1 9 5 ∧ M'.1 9 6 = M.1 9 6 ∧ M'.1 9 7 = upd (M.1 9 7) t (M.1 9 7 t + 1) ∧ M'.1 9 8 = upd (M.1 9 8) t (if bet (M.1 9 8 t) t v then v else M.1 9 8 t) ∧ M'.1 9 0 14 = (if bet (M.1 9 8 t) t v && decide (t = 0) then M.1 9 7 0 else M.1 9 0 14) := by
  unfold jdg at e
  refine ⟨((scr_mw (o := 8) (by decide) rfl).tr (scr_0 (by rw [upd_ne (by decide), zmw_o (by decide)]) rfl)).tr (scr_mw (o := 7) (by decide) e), ?_, ?_, ?_, ?_, ?_⟩
  · rw [e, zmw_o (by decide), zmw_o (by decide), zmw_o (by decide)]
  · rw [e, zmw_o (by decide), zmw_o (by decide), zmw_o (by decide)]
  · rw [e, zmw_at]
  · rw [e, zmw_o (by decide), zmw_o (by decide), zmw_at]
  · rw [e, zmw_o (by decide), zmw_at, upd_at]
def lowT (t : Nat) (M1 M2 : zM) : Prop := (∀ k, k < 127 * t → M2.1 9 6 k = M1.1 9 6 k) ∧ (∀ u, u < t → M2.1 9 7 u = M1.1 9 7 u ∧ M2.1 9 8 u = M1.1 9 8 u) ∧ M2.1 9 0 14 = M1.1 9 0 14
def popT (t : Nat) (v : Int32) (M1 M5 : zM) : Prop := (∀ k, k < 127 → M5.1 9 5 k = M1.1 9 6 (127 * t + k)) ∧ (∀ k, k < 127 * (t + 1) → M5.1 9 6 k = M1.1 9 6 k) ∧ (∀ u, u < t → M5.1 9 7 u = M1.1 9 7 u ∧ M5.1 9 8 u = M1.1 9 8 u) ∧ M5.1 9 7 t = M1.1 9 7 t + 1 ∧ M5.1 9 8 t = (if bet (M1.1 9 8 t) t v then v else M1.1 9 8 t) ∧ M5.1 9 0 14 = (if bet (M1.1 9 8 t) t v && decide (t = 0) then M1.1 9 7 0 else M1.1 9 0 14)
theorem popL {M1 M2 M3 M5 : zM} {t : Nat} {v : Int32} {f : Nat → Int32} (hl : lowT (t + 1) M1 M2) (hf : ∀ j, j < 127 → f j = M2.1 9 6 (127 * t + j)) (e3 : M3 = zmw M2 9 5 f) (e5 : M5 = jdg M3 t v) : scr M2 M5 ∧ popT t v M1 M5 := by
  obtain ⟨j1, j2, j3, j4, j5, j6⟩ := jdg_f e5
  obtain ⟨l1, l2, l3⟩ := hl
  have g7 : M3.1 9 7 = M2.1 9 7 := by rw [e3, zmw_o (by decide)]
  have g8 : M3.1 9 8 = M2.1 9 8 := by rw [e3, zmw_o (by decide)]
  have g6 : M3.1 9 6 = M2.1 9 6 := by rw [e3, zmw_o (by decide)]
  have g0 : M3.1 9 0 = M2.1 9 0 := by rw [e3, zmw_o (by decide)]
  rw [g7] at j4
  rw [g8] at j5
  rw [g8, g7, g0] at j6
  refine ⟨(scr_mw (by decide) e3).tr j1, fun k hk => ?_, fun k hk => ?_, fun u hu => ⟨?_, ?_⟩, ?_, ?_, ?_⟩
  · rw [j2, e3, zmw_at, hf k hk, l1 _ (by omega)]
  · rw [j3, g6, l1 k hk]
  · rw [j4, upd_ne (by omega), (l2 u (by omega)).1]
  · rw [j5, upd_ne (by omega), (l2 u (by omega)).2]
  · rw [j4, upd_at, (l2 t (by omega)).1]
  · rw [j5, upd_at, (l2 t (by omega)).2]
  · rw [j6, (l2 t (by omega)).2, (l2 0 (by omega)).1, l3]
def evt (t : Nat) : Int := if t % 2 = 0 then 1 else 0
theorem evt_s (t : Nat) : 1 - evt t = evt (t + 1) := by
  unfold evt
  by_cases h : t % 2 = 0
  · rw [if_pos h, if_neg (by omega)]; rfl
  · rw [if_neg h, if_pos (by omega)]; rfl
def cod (e b : Int) : Int := if e = 1 then b else if b = 3 then -1 else b
theorem bst_su {e : Int} {p : Nat → Bool} {f : Nat → Int} {n : Nat} : bst e p f (n + 1) = if p n && (if e = 1 then decide ((bst e p f n).1 < f n) else decide (f n < (bst e p f n).1)) then (f n, (n : Int)) else bst e p f n := rfl
theorem bst_cod {t : Nat} {p : Nat → Bool} {F : Nat → Int} {k : Nat} (hF : ∀ w, p w = true → 0 ≤ F w ∧ F w ≤ 2) (hp : p k = true) {b v : Int32} (hb : b.toInt = cod (evt t) (bst (evt t) p F k).1) (hv : v.toInt = F k) : (if bet b t v then v else b).toInt = cod (evt t) (bst (evt t) p F (k + 1)).1 ∧ (bet b t v = true → bst (evt t) p F (k + 1) = (F k, (k : Int))) ∧ (bet b t v = false → bst (evt t) p F (k + 1) = bst (evt t) p F k) := by
  have hFk := hF k hp
  have hbm : b = -1 ↔ b.toInt = -1 := by rw [← Int32.toInt_inj]; exact Iff.rfl
  have key : (bet b t v = true ∧ bst (evt t) p F (k + 1) = (F k, (k : Int))) ∨ (bet b t v = false ∧ bst (evt t) p F (k + 1) = bst (evt t) p F k) := by
    by_cases ht : t % 2 = 0
    · have he : evt t = 1 := if_pos ht
      rw [he] at hb ⊢
      have hr := bst_b1 hF k
      have hb' : b.toInt = (bst 1 p F k).1 := hb
      unfold bet
      rw [bst_su, hp, if_pos ht]
      by_cases hlt : (bst 1 p F k).1 < F k
      · left
        have : b < v := by rw [Int32.lt_iff_toInt_lt]; omega
        simp [this, hlt]
      · right
        have h1 : ¬ b < v := by rw [Int32.lt_iff_toInt_lt]; omega
        have h2 : ¬ b = -1 := by rw [hbm]; omega
        simp [h1, h2, hlt]
    · have he : evt t = 0 := if_neg ht
      rw [he] at hb ⊢
      have hr := bst_b0 (e := 0) (by decide) hF k
      have hb' : b.toInt = if (bst 0 p F k).1 = 3 then -1 else (bst 0 p F k).1 := hb
      unfold bet
      rw [bst_su, hp, if_neg ht]
      by_cases hlt : F k < (bst 0 p F k).1
      · left
        by_cases h3 : (bst 0 p F k).1 = 3
        · rw [if_pos h3] at hb'
          have : b = -1 := hbm.mpr hb'
          simp [this, hlt]
        · rw [if_neg h3] at hb'
          have : v < b := by rw [Int32.lt_iff_toInt_lt]; omega
          simp [this, hlt]
      · right
        rw [if_neg (by omega)] at hb'
        have h1 : ¬ v < b := by rw [Int32.lt_iff_toInt_lt]; omega
        have h2 : ¬ b = -1 := by rw [hbm]; omega
        simp [h1, h2, hlt]
  rcases key with ⟨h1, h2⟩ | ⟨h1, h2⟩
  · refine ⟨?_, fun _ => h2, fun h => by rw [h1] at h; cases h⟩
    rw [h1, h2]
    show v.toInt = cod (evt t) (F k)
    unfold cod
    rw [hv]
    split
    · rfl
    · rw [if_neg (by omega)]
  · refine ⟨?_, fun h => (by rw [h1] at h; cases h), fun _ => h2⟩
    rw [h1, h2]
    exact hb
def lvI (M : zM) (g y : Int) (r t : Nat) (a : Sk) (M0 : zM) (k : Nat) (M1 : zM) : Prop := scr M M1 ∧ RpF (M1.1 9 5) a ∧ RpF (fun j => M1.1 9 6 (127 * t + j)) a ∧ (M1.1 9 7 t).toInt = k ∧ (M1.1 9 8 t).toInt = cod (evt t) (bst (evt t) (fun w => tr_may a w) (fun w => wv g y r (1 - evt t) (tr_do a w g (evt t))) k).1 ∧ (0 < t → lowT t M0 M1) ∧ (t = 0 → (bst (evt t) (fun w => tr_may a w) (fun w => wv g y r (1 - evt t) (tr_do a w g (evt t))) k).1 ≠ -1 → (M1.1 9 0 14).toInt = (bst (evt t) (fun w => tr_may a w) (fun w => wv g y r (1 - evt t) (tr_do a w g (evt t))) k).2)
theorem wv_cod {g y : Int} {r t : Nat} {a : Sk} : cod (evt t) (bst (evt t) (fun w => tr_may a w) (fun w => wv g y r (1 - evt t) (tr_do a w g (evt t))) 21).1 = wv g y (r + 1) (evt t) a := by
  have hb := wv_b g y (r + 1) (evt t) a
  have e : wv g y (r + 1) (evt t) a = (bst (evt t) (fun w => tr_may a w) (fun w => wv g y r (1 - evt t) (tr_do a w g (evt t))) 21).1 := rfl
  rw [← e]
  unfold cod
  split
  · rfl
  · rw [if_neg (by omega)]
set_option maxRecDepth 20000 in
theorem mt_X8_layParties {kd : Nat → Nat} {K : zK} {X : zX} (hX : ∀ (n pc : Nat) (ls : zLS) (st : List zV) (M : zM), zrun (tb_X8_layParties kd K) [(12, [5, 6]), (28, [5, 6]), (46, [5, 6]), (93, [5]), (113, [5, 6])] n X pc ls st M → X pc ls st M) (g : Int32) (y : Int32) (n : Int32) (M : zM) (h : (kd 9 = 8) ∧ ∃ a : Sk, (RpF (M.1 9 1) a) ∧ (isT g.toInt ∧ inn n.toInt 1 3 ∧ 0 ≤ y.toInt ∧ y.toInt < 1000000) ∧ ∀ v : Int32, (v.toInt = wv g.toInt y.toInt n.toInt.toNat 1 a) → ∀ M' : zM, (scr M M') → ((M'.1 9 0 14).toInt = wc g.toInt y.toInt (n.toInt.toNat - 1) 1 a) → K (some (zI v)) M') : X 0 [some (zR 9 0), some (zI (g)), some (zI (y)), some (zI (n)), none, none, none] [] M := by
  obtain ⟨hk, a, ha, ⟨hg, hn, hy⟩, hK⟩ := h
  obtain ⟨nn, hnn⟩ : ∃ nn : Nat, n.toInt = nn := ⟨n.toInt.toNat, by omega⟩
  have hnt : n.toInt.toNat = nn := by omega
  rw [hnt] at hK
  have hn3 : 1 ≤ nn ∧ nn ≤ 3 := by omega
  have zz : ∀ (T : Int32) (t o : Nat), T.toInt = t → t < 4 → o = 7 ∨ o = 8 → zin (kd 9) o 0 T := fun T t o hT ht ho => zin_of (n := 4) (by rw [hk]; rcases ho with rfl | rfl <;> rfl) (by omega) (by omega)
  have tcl : ∀ (T : Int32) (t : Nat), T.toInt = t → T.toNatClampNeg = t := fun T t hT => by rw [z_cl]; omega
  have pop : ∀ (t : Nat) (T v : Int32) (M1 M2 : zM), T.toInt = ((t + 1 : Nat) : Int) → t < 3 → scr M M2 → lowT (t + 1) M1 M2 → (∀ (M5 : zM) (T' : Int32), T'.toInt = t → scr M M5 → popT t v M1 M5 → X 12 [some (zR 9 0), some (zI g), some (zI y), some (zI n), some (zI T'), none, none] [] M5) → X 93 [some (zR 9 0), some (zI g), some (zI y), some (zI n), some (zI T), none, some (zI v)] [] M2 := by
    intro t T v M1 M2 hT ht s2 l2 hc
    have hT' : (T + (-1)).toInt = t := by simp only [Int32.lt_iff_toInt_lt, Int32.le_iff_toInt_le, ← Int32.toInt_inj, Int32.toInt_add, Int32.toInt_sub, Int32.toInt_mul, Int32.toInt_neg, Int.bmod, Int32.reduceToInt]; omega
    refine vc_X8_layParties_93 hX hk ?_
    have hb : 0 ≤ (T + (-1)).toInt ∧ (T + (-1)).toInt < 4 := by omega
    have hTn : (T + (-1)).toInt.toNat = t := by omega
    rw [hTn]
    refine ⟨hb, fun f1 h1 M3 e3 => ⟨hb, fun M5 e5 => ?_⟩⟩
    obtain ⟨p1, p2⟩ := popL l2 h1 e3 e5
    exact hc M5 _ hT' (s2.tr p1) p2
  have go28 : ∀ (T : Int32) (M1 : zM), (0 < T.toInt ∨ (M1.1 9 7 0).toInt ≤ 20) → X 28 [some (zR 9 0), some (zI g), some (zI y), some (zI n), some (zI T), none, none] [] M1 → X 12 [some (zR 9 0), some (zI g), some (zI y), some (zI n), some (zI T), none, none] [] M1 := by
    intro T M1 hT hx
    refine vc_X8_layParties_12 hX hk ⟨fun _ => hx, fun q => ⟨zin_of (n := 4) (by rw [hk]; rfl) (by decide) (by decide), fun q2 => ?_, fun _ => hx⟩⟩
    rw [show ((0 : Int32)).toNatClampNeg = 0 from rfl] at q2
    simp only [Int32.lt_iff_toInt_lt, Int32.le_iff_toInt_le, ← Int32.toInt_inj, Int32.toInt_add, Int32.toInt_sub, Int32.toInt_mul, Int32.toInt_neg, Int.bmod, Int32.reduceToInt] at q q2
    omega
  have LV : ∀ (r t : Nat), t + (r + 1) = nn → (∀ (a1 : Sk) (M1 : zM) (T : Int32), T.toInt = ((t + 1 : Nat) : Int) → scr M M1 → RpF (M1.1 9 5) a1 → RpF (fun k => M1.1 9 6 (127 * (t + 1) + k)) a1 → (M1.1 9 7 (t + 1)).toInt = 0 → (M1.1 9 8 (t + 1)).toInt = -1 → (∀ (v : Int32) (M5 : zM) (T' : Int32), v.toInt = wv g.toInt y.toInt r (evt (t + 1)) a1 → T'.toInt = t → scr M M5 → popT t v M1 M5 → X 12 [some (zR 9 0), some (zI g), some (zI y), some (zI n), some (zI T'), none, none] [] M5) → X 12 [some (zR 9 0), some (zI g), some (zI y), some (zI n), some (zI T), none, none] [] M1) → ∀ (a1 : Sk) (M0 : zM), (∀ (M1 : zM) (T : Int32), T.toInt = t → lvI M g.toInt y.toInt r t a1 M0 21 M1 → X 12 [some (zR 9 0), some (zI g), some (zI y), some (zI n), some (zI T), none, none] [] M1) → ∀ k, k ≤ 21 → ∀ (M1 : zM) (T : Int32), T.toInt = t → lvI M g.toInt y.toInt r t a1 M0 k M1 → X 12 [some (zR 9 0), some (zI g), some (zI y), some (zI n), some (zI T), none, none] [] M1 := by
    intro r t htr EN a1 M0 hfin
    refine up (N := 21) (Q := fun k => ∀ (M1 : zM) (T : Int32), T.toInt = t → lvI M g.toInt y.toInt r t a1 M0 k M1 → X 12 [some (zR 9 0), some (zI g), some (zI y), some (zI n), some (zI T), none, none] [] M1) hfin (fun k hk21 ih M1 T hT hI => ?_)
    obtain ⟨i1, i2, i3, i4, i5, i6, i7⟩ := hI
    have hTc := tcl T t hT
    have z7 := zz T t 7 hT (by omega) (Or.inl rfl)
    have hFb : ∀ w : Nat, tr_may a1 w = true → 0 ≤ wv g.toInt y.toInt r (1 - evt t) (tr_do a1 w g.toInt (evt t)) ∧ wv g.toInt y.toInt r (1 - evt t) (tr_do a1 w g.toInt (evt t)) ≤ 2 := fun w _ => wv_b _ _ _ _ _
    have hm : (T - T / (2 : Int32) * (2 : Int32)) = 0 ↔ t % 2 = 0 := by rw [z_nI hT]; exact z_m2 t (by omega)
    refine go28 T M1 (by
      by_cases h0 : t = 0
      · subst h0; right; omega
      · left; omega) (vc_X8_layParties_28 hX hk ⟨fun q => ?_, fun _ => ?_⟩)
    · rw [← Int32.toInt_inj] at q; omega
    · rw [hTc]
      refine ⟨z7, fun _ => ?_, fun q => by rw [Int32.le_iff_toInt_le, i4] at q; have q' : ¬ (k : Int) ≤ 20 := q; omega⟩
      refine vc_X8_layParties_113 hX hk ?_
      rw [hTc, i4]
      have key : ∀ (e : Int) (f3 : Nat → Int32) (M3 M4 : zM), e = evt t → tr_may a1 (k : Int) = true → RpF f3 (tr_do a1 (k : Int) g.toInt e) → M3 = zmw M1 9 5 f3 → ltn M3 (T + 1).toInt.toNat M4 → X 12 [some (zR 9 0), some (zI g), some (zI y), some (zI n), some (zI (T + 1)), none, none] [] M4 := by
        intro e f3 M3 M4 he hmay hf3 e3 hl
        have hT1 := z_inc hT (by omega)
        rw [show (T + 1).toInt.toNat = t + 1 by omega] at hl
        obtain ⟨l1, l2, l3, l4, l5, l6, l7⟩ := hl.f
        have s3 : scr M1 M3 := scr_mw (by decide) e3
        have a4 : RpF (M4.1 9 5) (tr_do a1 (k : Int) g.toInt (evt t)) := by rw [l2, e3, zmw_at, ← he]; exact hf3
        have g6 : M3.1 9 6 = M1.1 9 6 := by rw [e3, zmw_o (by decide)]
        have g7 : M3.1 9 7 = M1.1 9 7 := by rw [e3, zmw_o (by decide)]
        have g8 : M3.1 9 8 = M1.1 9 8 := by rw [e3, zmw_o (by decide)]
        have g0 : M3.1 9 0 = M1.1 9 0 := by rw [e3, zmw_o (by decide)]
        refine EN (tr_do a1 (k : Int) g.toInt (evt t)) M4 (T + 1) hT1 ((i1.tr s3).tr l1) a4 (a4.congr (fun j hj => by show M4.1 9 6 (127 * (t + 1) + j) = _; rw [l6 j hj, l2])) (by rw [l4, upd_at]; rfl) (by rw [l5, upd_at]; rfl) (fun v M5 T' hv hT' s5 hp => ?_)
        obtain ⟨p1, p2, p3, p4, p5, p6⟩ := hp
        have m7 : M4.1 9 7 t = M1.1 9 7 t := by rw [l4, upd_ne (by omega), g7]
        have m8 : M4.1 9 8 t = M1.1 9 8 t := by rw [l5, upd_ne (by omega), g8]
        rw [← evt_s] at hv
        obtain ⟨c1, c2, c3⟩ := bst_cod (t := t) (p := fun w => tr_may a1 w) (F := fun w => wv g.toInt y.toInt r (1 - evt t) (tr_do a1 w g.toInt (evt t))) (k := k) hFb hmay i5 hv
        rw [m8] at p5 p6
        refine ih M5 T' hT' ⟨s5, i3.congr (fun j hj => by rw [p1 j hj, l7 _ (by omega), g6]), i3.congr (fun j hj => by show M5.1 9 6 (127 * t + j) = M1.1 9 6 (127 * t + j); rw [p2 _ (by omega), l7 _ (by omega), g6]), ?_, ?_, fun h0 => ?_, fun h0 => ?_⟩
        · rw [p4, m7]; exact z_inc i4 (by omega)
        · rw [p5]; exact c1
        · obtain ⟨o1, o2, o3⟩ := i6 h0
          refine ⟨fun j hj => by rw [p2 j (by omega), l7 j (by omega), g6, o1 j hj], fun u hu => ⟨?_, ?_⟩, ?_⟩
          · rw [(p3 u hu).1, l4, upd_ne (by omega), g7, (o2 u hu).1]
          · rw [(p3 u hu).2, l5, upd_ne (by omega), g8, (o2 u hu).2]
          · rw [p6, decide_eq_false (show ¬ t = 0 by omega), Bool.and_false, l3, g0]
            exact o3
        · subst h0
          rw [decide_eq_true rfl, Bool.and_true, m7, l3, g0] at p6
          intro hne
          cases hbt : bet (M1.1 9 8 0) 0 v with
          | true =>
            rw [c2 hbt, p6, hbt]
            exact i4
          | false =>
            rw [c3 hbt] at hne ⊢
            rw [p6, hbt]
            exact i7 rfl hne
      refine ⟨z7, a1, i2, by omega, fun v1 hv1 => ⟨fun q => ⟨z7, z7, fun M2 e2 => ih M2 T hT ?_⟩, fun q => ⟨z7, fun qm => ⟨a1, i2, by omega, ?_, by omega, by decide, fun f3 hf3 M3 e3 => ⟨?_, fun M4 e4 => key _ f3 M3 M4 ?_ ?_ hf3 e3 e4⟩⟩, fun qm => ⟨a1, i2, by omega, ?_, by omega, by decide, fun f3 hf3 M3 e3 => ⟨?_, fun M4 e4 => key _ f3 M3 M4 ?_ ?_ hf3 e3 e4⟩⟩⟩⟩⟩
      · rw [hv1, zp_0] at q
        have hpf : tr_may a1 (k : Int) = false := by simpa using q
        have hbs : bst (evt t) (fun w => tr_may a1 w) (fun w => wv g.toInt y.toInt r (1 - evt t) (tr_do a1 w g.toInt (evt t))) (k + 1) = bst (evt t) (fun w => tr_may a1 w) (fun w => wv g.toInt y.toInt r (1 - evt t) (tr_do a1 w g.toInt (evt t))) k := by
          conv => lhs; unfold bst
          rw [hpf]
          simp
        have g7 : M2.1 9 7 = upd (M1.1 9 7) t (M1.1 9 7 t + 1) := by rw [e2, zmw_at]
        have go : ∀ o, o ≠ 7 → M2.1 9 o = M1.1 9 o := fun o ho => by rw [e2, zmw_o ho]
        refine ⟨i1.tr (scr_mw (by decide) e2), by rw [go 5 (by decide)]; exact i2, by rw [go 6 (by decide)]; exact i3, by rw [g7, upd_at]; exact z_inc i4 (by omega), by rw [go 8 (by decide), hbs]; exact i5, fun h0 => ?_, fun h0 => by rw [hbs, go 0 (by decide)]; exact i7 h0⟩
        obtain ⟨o1, o2, o3⟩ := i6 h0
        exact ⟨fun j hj => by rw [go 6 (by decide), o1 j hj], fun u hu => ⟨by rw [g7, upd_ne (by omega), (o2 u hu).1], by rw [go 8 (by decide), (o2 u hu).2]⟩, by rw [go 0 (by decide)]; exact o3⟩
      · rw [hv1, zp_n] at q; exact q
      · have := z_inc hT (by omega); omega
      · rw [hm] at qm; exact (if_neg qm).symm
      · rw [hv1, zp_n] at q; exact q
      · rw [hv1, zp_n] at q; exact q
      · have := z_inc hT (by omega); omega
      · rw [hm] at qm; exact (if_pos qm).symm
      · rw [hv1, zp_n] at q; exact q
  have EN : ∀ (r t : Nat), t + 1 + r = nn → ∀ (a1 : Sk) (M1 : zM) (T : Int32), T.toInt = ((t + 1 : Nat) : Int) → scr M M1 → RpF (M1.1 9 5) a1 → RpF (fun k => M1.1 9 6 (127 * (t + 1) + k)) a1 → (M1.1 9 7 (t + 1)).toInt = 0 → (M1.1 9 8 (t + 1)).toInt = -1 → (∀ (v : Int32) (M5 : zM) (T' : Int32), v.toInt = wv g.toInt y.toInt r (evt (t + 1)) a1 → T'.toInt = t → scr M M5 → popT t v M1 M5 → X 12 [some (zR 9 0), some (zI g), some (zI y), some (zI n), some (zI T'), none, none] [] M5) → X 12 [some (zR 9 0), some (zI g), some (zI y), some (zI n), some (zI T), none, none] [] M1 := by
    intro r
    induction r with
    | zero =>
      intro t htr a1 M1 T hT s1 h5 h6 h7 h8 hc
      refine go28 T M1 (Or.inl (by omega)) (vc_X8_layParties_28 hX hk ⟨fun _ => ?_, fun q => absurd (Int32.toInt_inj.mp (by omega)) q⟩)
      refine vc_X8_layParties_46 hX hk ⟨a1, h5, hy, fun v1 hv1 f1 hf1 M2 e2 => ?_⟩
      have s2 : scr M M2 := s1.tr (scr_0 (hf1.2.2 16 (by decide) (by decide)) e2)
      have l2 : lowT (t + 1) M1 M2 := ⟨fun j _ => by rw [e2, zmw_o (by decide)], fun u _ => ⟨by rw [e2, zmw_o (by decide)], by rw [e2, zmw_o (by decide)]⟩, by rw [e2, zmw_at]; exact hf1.2.2 14 (by decide) (by decide)⟩
      have p : ∀ v : Int32, v.toInt = wlaw (sk_law a1 g.toInt y.toInt) → X 93 [some (zR 9 0), some (zI g), some (zI y), some (zI n), some (zI T), none, some (zI v)] [] M2 := fun v hv => pop t T v M1 M2 hT (by omega) s2 l2 (fun M5 T' hT' s5 hp => hc v M5 T' hv hT' s5 hp)
      have v1e : ∀ (x : Int32) (z : Int), x.toInt = z → (v1 = x ↔ sk_law a1 g.toInt y.toInt = z) := fun x z e => by rw [← Int32.toInt_inj, hv1, e]
      refine ⟨fun _ => ⟨fun q1 => ⟨fun q2 => p _ ?_, fun q2 => p _ ?_⟩, fun q1 => p _ ?_⟩, fun q => ?_⟩
      · rw [v1e 1 1 rfl] at q1; rw [v1e 2 2 rfl] at q2
        unfold wlaw
        rw [if_neg q1, if_neg q2]; rfl
      · rw [v1e 1 1 rfl] at q1; rw [v1e 2 2 rfl] at q2
        unfold wlaw
        rw [if_neg q1, if_pos q2]; rfl
      · rw [v1e 1 1 rfl] at q1
        unfold wlaw
        rw [if_pos q1]; rfl
      · rw [Int32.le_iff_toInt_le] at q; omega
    | succ r ihr =>
      intro t htr a1 M1 T hT s1 h5 h6 h7 h8 hc
      have hTc := tcl T (t + 1) hT
      refine LV r (t + 1) (by omega) (ihr (t + 1) (by omega)) a1 M1 (fun M2 T2 hT2 hI => ?_) 0 (by omega) M1 T hT ⟨s1, h5, h6, h7, ?_, fun _ => ⟨fun _ _ => rfl, fun _ _ => ⟨rfl, rfl⟩, rfl⟩, fun h0 => absurd h0 (by omega)⟩
      · obtain ⟨i1, i2, i3, i4, i5, i6, i7⟩ := hI
        have hT2c := tcl T2 (t + 1) hT2
        refine go28 T2 M2 (Or.inl (by omega)) (vc_X8_layParties_28 hX hk ⟨fun q => ?_, fun _ => ?_⟩)
        · rw [← Int32.toInt_inj] at q; omega
        · rw [hT2c]
          refine ⟨zz T2 (t + 1) 7 hT2 (by omega) (Or.inl rfl), fun q => ?_, fun _ => ?_⟩
          · rw [Int32.le_iff_toInt_le, i4] at q
            have q' : (21 : Int) ≤ 20 := q
            omega
          · refine vc_X8_layParties_46 hX hk ⟨a1, i2, hy, fun v1 hv1 f1 hf1 M3 e3 => ?_⟩
            have s3 : scr M M3 := i1.tr (scr_0 (hf1.2.2 16 (by decide) (by decide)) e3)
            obtain ⟨o1, o2, o3⟩ := i6 (by omega)
            have l3 : lowT (t + 1) M1 M3 := ⟨fun j hj => by rw [e3, zmw_o (by decide), o1 j hj], fun u hu => ⟨by rw [e3, zmw_o (by decide), (o2 u hu).1], by rw [e3, zmw_o (by decide), (o2 u hu).2]⟩, by rw [e3, zmw_at, hf1.2.2 14 (by decide) (by decide)]; exact o3⟩
            refine ⟨fun q => ?_, fun _ => ⟨zz T2 (t + 1) 8 hT2 (by omega) (Or.inr rfl), ?_⟩⟩
            · rw [Int32.le_iff_toInt_le] at q; omega
            · rw [hT2c]
              refine pop t T2 _ M1 M3 hT2 (by omega) s3 l3 (fun M5 T' hT' s5 hp => hc _ M5 T' ?_ hT' s5 hp)
              rw [e3, zmw_o (by decide), i5]
              exact wv_cod
      · rw [h8]
        unfold bst cod
        by_cases he : evt (t + 1) = 1
        · rw [if_pos he, if_pos he]
        · rw [if_neg he, if_neg he]; rfl
  refine vc_X8_layParties_0 hX hk (fun f1 hf1 M1 e1 => ⟨by decide, fun M2 e2 => ?_⟩)
  obtain ⟨r, rfl⟩ : ∃ r, nn = r + 1 := ⟨nn - 1, by omega⟩
  have e2' : ltn M1 0 M2 := e2
  obtain ⟨l1, l2, l3, l4, l5, l6, l7⟩ := e2'.f
  have a1 : RpF (M1.1 9 5) a := by rw [e1, zmw_at]; exact ha.congr hf1
  have ev0 : evt 0 = 1 := rfl
  refine LV r 0 (by omega) (EN r 0 (by omega)) a M2 (fun M3 T hT hI => ?_) 0 (by omega) M2 0 rfl ⟨(scr_mw (by decide) e1).tr l1, by rw [l2]; exact a1, a1.congr (fun j hj => l6 j hj), by rw [l4, upd_at]; rfl, by rw [l5, upd_at, ev0]; rfl, fun h0 => absurd h0 (by omega), fun _ hne => absurd (by rw [ev0]; rfl) hne⟩
  obtain ⟨i1, i2, i3, i4, i5, i6, i7⟩ := hI
  refine vc_X8_layParties_12 hX hk ⟨fun q => by simp only [Int32.lt_iff_toInt_lt, Int32.le_iff_toInt_le, ← Int32.toInt_inj, Int32.toInt_add, Int32.toInt_sub, Int32.toInt_mul, Int32.toInt_neg, Int.bmod, Int32.reduceToInt] at q; omega, fun q => ⟨zin_of (n := 4) (by rw [hk]; rfl) (by decide) (by decide), fun q2 => ⟨zin_of (n := 4) (by rw [hk]; rfl) (by decide) (by decide), ?_⟩, fun q2 => ?_⟩⟩
  · rw [show ((0 : Int32)).toNatClampNeg = 0 from rfl]
    rw [wv_cod, ev0] at i5
    have hb := wv_b g.toInt y.toInt (r + 1) 1 a
    refine hK _ i5 M3 i1 ?_
    have := i7 rfl (by
      rw [ev0]
      have e : (bst 1 (fun w => tr_may a w) (fun w => wv g.toInt y.toInt r (1 - 1) (tr_do a w g.toInt 1)) 21).1 = wv g.toInt y.toInt (r + 1) 1 a := rfl
      rw [e]
      omega)
    rw [ev0] at this
    exact this
  · rw [show ((0 : Int32)).toNatClampNeg = 0 from rfl, Int32.lt_iff_toInt_lt, i4] at q2
    have q' : ¬ (20 : Int) < 21 := q2
    omega
theorem ms_X8_layParties : zMS 8 yX8_layParties cX8_layParties 7 (some .int) sp_X8_layParties := by
  intro d hd
  obtain ⟨d', rfl⟩ : ∃ d', d = d' + 8 := ⟨d - 8, by omega⟩
  refine zmethod (tab := tb_X8_layParties) (cut := [(12, [5, 6]), (28, [5, 6]), (46, [5, 6]), (93, [5]), (113, [5, 6])]) (by decide) (tk_X8_layParties d' ms_X8_layHand ms_X8_layTurn ms_X8_ruleOf ms_X8_backTo ms_X8_judge ms_X8_mayStroke ms_X8_goStroke) ?_
  intro kd as M K h
  unfold sp_X8_layParties at h
  split at h
  · rename_i g y n
    exact ⟨Nat.le_of_ble_eq_true rfl, fun X hX => mt_X8_layParties hX g y n M h⟩
  · exact h.elim

set_option maxRecDepth 20000 in
theorem mt_X8_parties {kd : Nat → Nat} {K : zK} {X : zX} (hX : ∀ (n pc : Nat) (ls : zLS) (st : List zV) (M : zM), zrun (tb_X8_parties kd K) [] n X pc ls st M → X pc ls st M) (g : Int32) (y : Int32) (n : Int32) (w : Int32) (M : zM) (h : (kd 9 = 8) ∧ ∃ s : St, (RpM M s) ∧ ∀ v : Int32, (v.toInt = (ev_parties s g.toInt y.toInt n.toInt w.toInt).1) → ∀ M' : zM, (RpM M' (ev_parties s g.toInt y.toInt n.toInt w.toInt).2) → (fr0 M M') → K (some (zI v)) M') : X 0 [some (zR 9 0), some (zI (g)), some (zI (y)), some (zI (n)), some (zI (w)), none] [] M := by
  obtain ⟨hk, s, hR, hK⟩ := h
  have hyb := hR.1.1.1.1
  have hy1 : (M.1 9 1 126).toInt = s.1.1.2 := hR.1.1.2.2
  have bad : ∀ (v : Int32) (M2 : zM), ¬ (isT g.toInt ∧ inn y.toInt 0 99 ∧ inn n.toInt 1 3 ∧ inn w.toInt 0 1) → v = (-2 : Int32) → M2 = zmw M 9 4 (upd (M.1 9 4) 0 (M.1 9 4 0 + 1)) → K (some (zI v)) M2 := fun v M2 q hv e => mrf hR hK 0 (-2) (by decide) (by rw [hv]; rfl) (by unfold ev_parties; rw [if_neg q]) e
  refine vc_X8_parties_0 hX hk (fun v1 h1 => ⟨fun q v2 h2 M2 e2 => bad v2 M2 ?_ h2 e2, fun q1 v3 h3 => ⟨fun q v4 h4 M4 e4 => bad v4 M4 ?_ h4 e4, fun q3 v5 h5 => ⟨fun q v6 h6 M6 e6 => bad v6 M6 ?_ h6 e6, fun q5 v7 h7 => ⟨fun q7 => ?_, fun q v9 h9 M9 e9 => bad v9 M9 ?_ h9 e9⟩⟩⟩⟩)
  · rw [h1, zp_0] at q; exact fun x => q x.1
  · rw [h3, Int32.toInt_toInt64, zp_0] at q; exact fun x => q x.2.1
  · rw [h5, Int32.toInt_toInt64, zp_0] at q; exact fun x => q x.2.2.1
  · rw [h1, zp_n] at q1
    rw [h3, Int32.toInt_toInt64, zp_n] at q3
    rw [h5, Int32.toInt_toInt64, zp_n] at q5
    rw [h7, Int32.toInt_toInt64, zp_n] at q7
    have q3' : 0 ≤ y.toInt ∧ y.toInt ≤ 99 := q3
    have q5' : 1 ≤ n.toInt ∧ n.toInt ≤ 3 := q5
    have q7' : 0 ≤ w.toInt ∧ w.toInt ≤ 1 := q7
    have hY : ((M.1 9 1 126) + y).toInt = s.1.1.2 + y.toInt := by simp only [Int32.lt_iff_toInt_lt, Int32.le_iff_toInt_le, ← Int32.toInt_inj, Int32.toInt_add, Int32.toInt_sub, Int32.toInt_mul, Int32.toInt_neg, Int.bmod, Int32.reduceToInt]; omega
    have w0 : w = 0 ↔ w.toInt = 0 := by rw [← Int32.toInt_inj]; exact Iff.rfl
    have hev : ev_parties s g.toInt y.toInt n.toInt w.toInt = ((if w.toInt = 0 then wv g.toInt (s.1.1.2 + y.toInt) n.toInt.toNat 1 s.1.1 else wc g.toInt (s.1.1.2 + y.toInt) (n.toInt.toNat - 1) 1 s.1.1), s) := by unfold ev_parties; rw [if_pos ⟨q1, q3', q5', q7'⟩]
    rw [hev] at hK
    rw [n126, hY]
    refine ⟨zin_of (n := 915) (by rw [hk]; rfl) (by decide) (by decide), s.1.1, hR.1.1, ⟨q1, q5', by omega, by omega⟩, fun v8 h8 M8 s8 r8 => ?_⟩
    have R8 := hR.scrt s8
    refine ⟨fun qw => hK _ ?_ M8 R8.1 R8.2, fun qw => hK _ ?_ M8 R8.1 R8.2⟩
    · rw [w0] at qw
      show _ = (if _ then _ else _)
      rw [if_neg qw]; exact r8
    · rw [w0] at qw
      show _ = (if _ then _ else _)
      rw [if_pos qw]; exact h8
  · rw [h7, Int32.toInt_toInt64, zp_0] at q; exact fun x => q x.2.2.2
theorem ms_X8_parties : zMS 9 yX8_parties cX8_parties 6 (some .int) sp_X8_parties := by
  intro d hd
  obtain ⟨d', rfl⟩ : ∃ d', d = d' + 9 := ⟨d - 9, by omega⟩
  refine zmethod (tab := tb_X8_parties) (cut := []) (by decide) (tk_X8_parties d' ms_X8_isThing ms_X8_in ms_X8_bad ms_X8_layParties) ?_
  intro kd as M K h
  unfold sp_X8_parties at h
  split at h
  · rename_i g y n w
    exact ⟨Nat.le_of_ble_eq_true rfl, fun X hX => mt_X8_parties hX g y n w M h⟩
  · exact h.elim

