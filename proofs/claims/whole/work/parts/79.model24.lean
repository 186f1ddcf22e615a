theorem RpM.fr {M : zM} {s : St} {x y : Int64} (h : RpM M s) : RpM (zml (zml M 9 4 x) 9 5 y) (s.1, s.2.1, s.2.2.1, (x.toInt, y.toInt), s.2.2.2.2) ∧ fr0 M (zml (zml M 9 4 x) 9 5 y) :=
  ⟨⟨h.1, h.2.1, h.2.2.1, ⟨by simp [zml], by simp [zml]⟩, h.2.2.2.2⟩, fun n _ => rfl, fun n hn => by funext j; simp [zml, hn]⟩
set_option maxRecDepth 20000 in
theorem mt_X8_fraction {kd : Nat → Nat} {K : zK} {X : zX} (hX : ∀ (n pc : Nat) (ls : zLS) (st : List zV) (M : zM), zrun (tb_X8_fraction kd K) [(6, [9, 10])] n X pc ls st M → X pc ls st M) (o : Int64) (u : Int64) (M : zM) (h : (kd 9 = 8) ∧ ∃ s : St, (RpM M s) ∧ ((0 ≤ o.toInt ∧ o.toInt ≤ u.toInt) ∧ 0 < u.toInt ∧ u.toInt ≤ 281474976710656) ∧ ∀ M' : zM, (RpM M' (s.1, s.2.1, s.2.2.1, frc o.toInt u.toInt, s.2.2.2.2)) → (fr0 M M') → K none M') : X 0 [some (zR 9 0), some (zL (o)), none, some (zL (u)), none, none, none, none, none, none, none] [] M := by
  obtain ⟨hk, s, hR, hb, hK⟩ := h
  obtain ⟨a, ha⟩ : ∃ a : Nat, o.toInt = a := ⟨o.toInt.toNat, by omega⟩
  obtain ⟨b, hb'⟩ : ∃ b : Nat, u.toInt = b := ⟨u.toInt.toNat, by omega⟩
  have fin : ∀ p : Int64, p.toInt = (Nat.gcd a b : Nat) → (¬ p = 0) ∧ ∀ M1 : zM, (M1 = zml M 9 4 (o / p)) → (¬ p = 0) ∧ ∀ M2 : zM, (M2 = zml M1 9 5 (u / p)) → K none M2 := by
    intro p hp
    have hg : 0 < Nat.gcd a b := Nat.gcd_pos_of_pos_right _ (by omega)
    have hp0 : 0 < p.toInt := by omega
    have hpn : ¬ p = 0 := fun e => by rw [e] at hp0; exact absurd hp0 (by decide)
    refine ⟨hpn, fun M1 e1 => ⟨hpn, fun M2 e2 => ?_⟩⟩
    rw [e1] at e2
    have hf := hR.fr (x := o / p) (y := u / p)
    rw [← e2] at hf
    have e : frc o.toInt u.toInt = ((o / p).toInt, (u / p).toInt) := by
      unfold frc
      rw [L_div (by omega) hp0, L_div (by omega) hp0, hp, ha, hb']
      rfl
    exact hK M2 (by rw [e]; exact hf.1) hf.2
  have loop : ∀ (f m n : Nat) (p q : Int64), n < f → p.toInt = m → q.toInt = n → Nat.gcd m n = Nat.gcd a b → X 6 [some (zR 9 0), some (zL o), none, some (zL u), none, some (zL p), none, some (zL q), none, none, none] [] M := by
    intro f
    induction f with
    | zero => intro m n p q h; omega
    | succ f ih =>
      intro m n p q hf hp hq hg
      refine vc_X8_fraction_6 hX hk ⟨fun q0 => ?_, fun q0 => ?_⟩
      · rw [lg_cmp_eq] at q0
        have hn : n = 0 := by rw [q0] at hq; have : (0 : Int) = n := hq; omega
        subst hn
        exact fin p (by rw [hp, ← hg, Nat.gcd_zero_right])
      · rw [lg_cmp_eq] at q0
        have hn : 0 < n := by
          cases n with
          | zero => exact absurd (Int64.toInt_inj.mp (by rw [hq]; rfl)) q0
          | succ n => exact Nat.succ_pos n
        have hlt := Nat.mod_lt m hn
        refine ⟨q0, ih n (m % n) q _ (by omega) hq ?_ ?_⟩
        · rw [L_rem (by omega) (by omega), hp, hq]; rfl
        · rw [Nat.gcd_comm, ← Nat.gcd_rec, Nat.gcd_comm]; exact hg
  exact vc_X8_fraction_0 hX (loop (b + 1) a b o u (Nat.lt_succ_self _) ha hb' rfl)
theorem ms_X8_fraction : zMS 1 yX8_fraction cX8_fraction 11 none sp_X8_fraction := by
  intro d hd
  obtain ⟨d', rfl⟩ : ∃ d', d = d' + 1 := ⟨d - 1, by omega⟩
  refine zmethod (tab := tb_X8_fraction) (cut := [(6, [9, 10])]) (by decide) (tk_X8_fraction d' ) ?_
  intro kd as M K h
  unfold sp_X8_fraction at h
  split at h
  · rename_i o u
    exact ⟨Nat.le_of_ble_eq_true rfl, fun X hX => mt_X8_fraction hX o u M h⟩
  · exact h.elim

set_option maxRecDepth 20000 in
theorem mt_X8_thumbs {kd : Nat → Nat} {K : zK} {X : zX} (hX : ∀ (n pc : Nat) (ls : zLS) (st : List zV) (M : zM), zrun (tb_X8_thumbs kd K) [(103, [11, 12]), (128, [])] n X pc ls st M → X pc ls st M) (g : Int32) (y : Int32) (z : Int32) (c : Int32) (M : zM) (h : (kd 9 = 8) ∧ ∃ s : St, (RpM M s) ∧ ∀ v : Int32, (v.toInt = (ev_thumbs s g.toInt y.toInt z.toInt c.toInt).1) → ∀ M' : zM, (RpM M' (ev_thumbs s g.toInt y.toInt z.toInt c.toInt).2) → (fr0 M M') → K (some (zI v)) M') : X 0 [some (zR 9 0), some (zI (g)), some (zI (y)), some (zI (z)), some (zI (c)), none, none, none, none, none, none, none, none] [] M := by
  obtain ⟨hk, s, hR, hK⟩ := h
  have bad : ∀ (v : Int32) (M2 : zM), ¬ (isT g.toInt ∧ isY y.toInt ∧ inn z.toInt 0 3 ∧ inn c.toInt 0 4) → v = (-2 : Int32) → M2 = zmw M 9 4 (upd (M.1 9 4) 0 (M.1 9 4 0 + 1)) → K (some (zI v)) M2 := fun v M2 q hv e => mrf hR hK 0 (-2) (by decide) (by rw [hv]; rfl) (by unfold ev_thumbs; rw [if_neg q]) e
  refine vc_X8_thumbs_0 hX hk (fun v1 h1 => ⟨fun q v2 h2 M2 e2 => bad v2 M2 ?_ h2 e2, fun q1 v3 h3 => ⟨fun q v4 h4 M4 e4 => bad v4 M4 ?_ h4 e4, fun q3 v5 h5 => ⟨fun q v6 h6 M6 e6 => bad v6 M6 ?_ h6 e6, fun q5 v7 h7 => ⟨fun q7 f8 hf8 M8 e8 => ?_, fun q v9 h9 M9 e9 => bad v9 M9 ?_ h9 e9⟩⟩⟩⟩)
  · rw [h1, zp_0] at q; exact fun x => q x.1
  · rw [h3, zp_0] at q; exact fun x => q x.2.1
  · rw [h5, Int32.toInt_toInt64, zp_0] at q; exact fun x => q x.2.2.1
  · rw [h1, zp_n] at q1
    rw [h3, zp_n] at q3
    rw [h5, Int32.toInt_toInt64, zp_n] at q5
    rw [h7, Int32.toInt_toInt64, zp_n] at q7
    have q5' : 0 ≤ z.toInt ∧ z.toInt ≤ 3 := q5
    have q7' : 0 ≤ c.toInt ∧ c.toInt ≤ 4 := q7
    have hall : isT g.toInt ∧ isY y.toInt ∧ inn z.toInt 0 3 ∧ inn c.toInt 0 4 := ⟨q1, q3, q5', q7'⟩
    have s8 : scr M M8 := scr_mw (by decide) e8
    refine ⟨s.1.1, by rw [e8, zmw_at]; exact hR.1.1.congr hf8, by omega, fun f9 hf9 M9 e9 => ?_⟩
    have s9 : scr M M9 := s8.tr (scr_0 (hf9.2.2 16 (by decide) (by decide)) e9)
    have R9 := hR.scrt s9
    have g7 : (M9.1 9 0 7).toInt = sk_N s.1.1 g.toInt 1 y.toInt := by rw [e9, zmw_at]; exact hf9.1
    have g8 : (M9.1 9 0 8).toInt = sk_N s.1.1 g.toInt 0 y.toInt := by rw [e9, zmw_at]; exact hf9.2.1
    have b1 := sk_N_b s.1.1 g.toInt 1 y.toInt
    have b0 := sk_N_b s.1.1 g.toInt 0 y.toInt
    have b10 := sk_N_10 s.1.1 g.toInt y.toInt
    have hsum : ((M9.1 9 0 7) + (M9.1 9 0 8)).toInt = (M9.1 9 0 7).toInt + (M9.1 9 0 8).toInt := by simp only [Int32.lt_iff_toInt_lt, Int32.le_iff_toInt_le, ← Int32.toInt_inj, Int32.toInt_add, Int32.toInt_sub, Int32.toInt_mul, Int32.toInt_neg, Int.bmod, Int32.reduceToInt]; omega
    have a128 : ∀ (p q r t : Int64) (bx b_y : Bool), r.toInt = sdw c.toInt (M9.1 9 0 7).toInt bx → t.toInt = sdw c.toInt (M9.1 9 0 8).toInt b_y → bx = decide (z.toInt % 2 = 1) → b_y = decide (z.toInt / 2 % 2 = 1) → X 128 [some (zR 9 0), some (zI g), some (zI y), some (zI z), some (zI c), some (zL p), none, some (zL q), none, some (zL r), none, some (zL t), none] [] M9 := by
      intro p q r t bx b_y hx hy hbx hby
      refine vc_X8_thumbs_128 hX hk ⟨by decide, by omega, fun w hw => ?_⟩
      have hw' : w.toInt = pwr 4 ((M9.1 9 0 7) + (M9.1 9 0 8)).toInt := hw
      have p1 := sdw_b (n := (M9.1 9 0 7).toInt) (b := bx) q7'
      have p2 := sdw_b (n := (M9.1 9 0 8).toInt) (b := b_y) q7'
      have p3 := pwr_4 (n := ((M9.1 9 0 7) + (M9.1 9 0 8)).toInt) (by omega)
      have hm : sdw c.toInt (M9.1 9 0 7).toInt bx * sdw c.toInt (M9.1 9 0 8).toInt b_y ≤ pwr 4 (M9.1 9 0 7).toInt * pwr 4 (M9.1 9 0 8).toInt := Int.mul_le_mul p1.2 p2.2 p2.1 (by omega)
      have hm0 : 0 ≤ sdw c.toInt (M9.1 9 0 7).toInt bx * sdw c.toInt (M9.1 9 0 8).toInt b_y := Int.mul_nonneg p1.1 p2.1
      rw [← pwr_add (by omega) (by omega), ← hsum] at hm
      have hxy : (r * t).toInt = sdw c.toInt (M9.1 9 0 7).toInt bx * sdw c.toInt (M9.1 9 0 8).toInt b_y := by rw [← hx, ← hy]; exact L_mul (by rw [hx, hy]; omega) (by rw [hx, hy]; omega)
      have hev : ev_thumbs s g.toInt y.toInt z.toInt c.toInt = (1, (s.1, s.2.1, s.2.2.1, frc (r * t).toInt w.toInt, s.2.2.2.2)) := by
        unfold ev_thumbs
        rw [if_pos hall, hxy, hw', hsum, hbx, hby, g7, g8]
      refine ⟨s, R9.1, ⟨⟨by rw [hxy]; exact hm0, by rw [hxy, hw']; exact hm⟩, by rw [hw']; exact p3.1, by rw [hw']; exact p3.2⟩, fun M13 g13 f13 => hK _ (by rw [hev]; rfl) M13 (by rw [hev]; exact g13) (R9.2.tr f13)⟩
    have hz : z = 0 ∨ z = 1 ∨ z = 2 ∨ z = 3 := by
      rcases (show z.toInt = 0 ∨ z.toInt = 1 ∨ z.toInt = 2 ∨ z.toInt = 3 by omega) with e | e | e | e
      · exact Or.inl (Int32.toInt_inj.mp (by rw [e]; rfl))
      · exact Or.inr (Or.inl (Int32.toInt_inj.mp (by rw [e]; rfl)))
      · exact Or.inr (Or.inr (Or.inl (Int32.toInt_inj.mp (by rw [e]; rfl))))
      · exact Or.inr (Or.inr (Or.inr (Int32.toInt_inj.mp (by rw [e]; rfl))))
    have dif : ∀ (m : Int32) (v w : Int64), 0 ≤ m.toInt ∧ m.toInt ≤ 24 → v.toInt = pwr c.toInt m.toInt → w.toInt = pwr 4 m.toInt → (w - v).toInt = sdw c.toInt m.toInt true := by
      intro m v w hm hv hw
      have c1 := pwr_b (c := c.toInt) (n := m.toInt) q7'
      have c2 := pwr_4 (n := m.toInt) hm.2
      rw [L_sub (by rw [hv, hw]; omega) (by rw [hv, hw]; omega), hv, hw]
      rfl
    have r7 : 0 ≤ (M9.1 9 0 7).toInt ∧ (M9.1 9 0 7).toInt ≤ 24 := by omega
    have r8 : 0 ≤ (M9.1 9 0 8).toInt ∧ (M9.1 9 0 8).toInt ≤ 24 := by omega
    refine ⟨q7', r7, fun p hp => ⟨q7', r8, fun q hq => ?_⟩⟩
    have a103 : ∀ (r : Int64) (bx : Bool), r.toInt = sdw c.toInt (M9.1 9 0 7).toInt bx → bx = decide (z.toInt % 2 = 1) → X 103 [some (zR 9 0), some (zI g), some (zI y), some (zI z), some (zI c), some (zL p), none, some (zL q), none, some (zL r), none, none, none] [] M9 := by
      intro r bx hr hbx
      refine vc_X8_thumbs_103 hX hk ⟨fun qz => a128 p q r q bx false hr hq hbx ?_, fun qz => ⟨by decide, r8, fun w hw => a128 p q r _ bx true hr (dif _ q w r8 hq hw) hbx ?_⟩⟩ <;> rcases hz with rfl | rfl | rfl | rfl <;> first | rfl | exact absurd qz (by decide)
    refine ⟨fun qz => a103 p false hp ?_, fun qz => ⟨by decide, r7, fun w hw => a103 _ true (dif _ p w r7 hp hw) ?_⟩⟩ <;> rcases hz with rfl | rfl | rfl | rfl <;> first | rfl | exact absurd qz (by decide)
  · rw [h7, Int32.toInt_toInt64, zp_0] at q; exact fun x => q x.2.2.2
theorem ms_X8_thumbs : zMS 7 yX8_thumbs cX8_thumbs 13 (some .int) sp_X8_thumbs := by
  intro d hd
  obtain ⟨d', rfl⟩ : ∃ d', d = d' + 7 := ⟨d - 7, by omega⟩
  refine zmethod (tab := tb_X8_thumbs) (cut := [(103, [11, 12]), (128, [])]) (by decide) (tk_X8_thumbs d' ms_X8_isThing ms_X8_isYear ms_X8_in ms_X8_bad ms_X8_layHand ms_X8_layRule ms_X8_power ms_X8_fraction) ?_
  intro kd as M K h
  unfold sp_X8_thumbs at h
  split at h
  · rename_i g y z c
    exact ⟨Nat.le_of_ble_eq_true rfl, fun X hX => mt_X8_thumbs hX g y z c M h⟩
  · exact h.elim

