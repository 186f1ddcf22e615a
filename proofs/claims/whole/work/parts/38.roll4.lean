/-! longs -/
theorem L_add {x y : Int64} (h1 : -9223372036854775808 ≤ x.toInt + y.toInt) (h2 : x.toInt + y.toInt < 9223372036854775808) : (x + y).toInt = x.toInt + y.toInt := by
  rw [Int64.toInt_add]; simp only [Int.bmod]; omega
theorem L_sub {x y : Int64} (h1 : -9223372036854775808 ≤ x.toInt - y.toInt) (h2 : x.toInt - y.toInt < 9223372036854775808) : (x - y).toInt = x.toInt - y.toInt := by
  rw [Int64.toInt_sub]; simp only [Int.bmod]; omega
theorem L_mul {x y : Int64} (h1 : -9223372036854775808 ≤ x.toInt * y.toInt) (h2 : x.toInt * y.toInt < 9223372036854775808) : (x * y).toInt = x.toInt * y.toInt := by
  rw [Int64.toInt_mul]; simp only [Int.bmod]; generalize x.toInt * y.toInt = z at *; omega
theorem L_lt (x : Int64) : x.toInt < 9223372036854775808 := by have := Int64.toInt_lt x; simpa using this
theorem L_div {x y : Int64} (hx : 0 ≤ x.toInt) (hy : 0 < y.toInt) : (x / y).toInt = x.toInt / y.toInt := by
  rw [Int64.toInt_div, Int.tdiv_eq_ediv_of_nonneg hx]
  have h1 := L_lt x
  have h2 : 0 ≤ x.toInt / y.toInt := Int.ediv_nonneg hx (by omega)
  have h3 : x.toInt / y.toInt ≤ x.toInt := Int.ediv_le_self _ hx
  simp only [Int.bmod]
  omega
theorem L_rem {x y : Int64} (hx : 0 ≤ x.toInt) (hy : 0 < y.toInt) : (x - x / y * y).toInt = x.toInt % y.toInt := by
  have h1 := L_lt x
  have hd := L_div hx hy
  have h2 : 0 ≤ x.toInt / y.toInt := Int.ediv_nonneg hx (by omega)
  have hm : 0 ≤ x.toInt / y.toInt * y.toInt := Int.mul_nonneg h2 (by omega)
  have hm2 : x.toInt / y.toInt * y.toInt ≤ x.toInt := Int.ediv_mul_le _ (by omega)
  have hmm : (x / y * y).toInt = x.toInt / y.toInt * y.toInt := by rw [← hd]; exact L_mul (by rw [hd]; omega) (by rw [hd]; omega)
  rw [L_sub (by rw [hmm]; omega) (by rw [hmm]; omega), hmm, Int.emod_def, Int.mul_comm]
theorem L_i32 {x : Int64} (h0 : 0 ≤ x.toInt) (h1 : x.toInt < 2147483648) : x.toInt32.toInt = x.toInt := by
  rw [Int64.toInt_toInt32]; simp only [Int.bmod]; omega
theorem L_of {x : Int64} {z : Int} (h : x.toInt = z) : x = Int64.ofInt z := by rw [← h, Int64.ofInt_toInt]
theorem pwr_n {c n : Int} (hc : 0 ≤ c) : pwr c n = ((c.toNat ^ n.toNat : Nat) : Int) := by
  unfold pwr
  obtain ⟨k, rfl⟩ : ∃ k : Nat, c = k := ⟨c.toNat, by omega⟩
  simp
theorem pwr_b {c n : Int} (hc : 0 ≤ c ∧ c ≤ 4) : 0 ≤ pwr c n ∧ pwr c n ≤ pwr 4 n := by
  rw [pwr_n hc.1, pwr_n (by decide)]
  have : c.toNat ^ n.toNat ≤ (4 : Int).toNat ^ n.toNat := Nat.pow_le_pow_left (by omega) _
  omega
theorem pwr_4 {n : Int} (h1 : n ≤ 24) : 0 < pwr 4 n ∧ pwr 4 n ≤ 281474976710656 := by
  rw [pwr_n (by decide)]
  have h2 : (4 : Int).toNat ^ n.toNat ≤ 4 ^ 24 := Nat.pow_le_pow_right (by decide) (by omega)
  have h3 : 0 < (4 : Int).toNat ^ n.toNat := Nat.pow_pos (by decide)
  have h4 : (4 : Nat) ^ 24 = 281474976710656 := by decide
  omega
theorem pwr_s {c : Int} {k : Nat} : pwr c ((k + 1 : Nat) : Int) = pwr c (k : Int) * c := by
  unfold pwr
  rw [Int.toNat_natCast, Int.toNat_natCast, Int.pow_succ]
theorem pwr_add {n m : Int} (hn : 0 ≤ n) (hm : 0 ≤ m) : pwr 4 (n + m) = pwr 4 n * pwr 4 m := by
  unfold pwr
  rw [Int.toNat_add hn hm, Int.pow_add]
theorem sdw_b {c n : Int} {b : Bool} (hc : 0 ≤ c ∧ c ≤ 4) : 0 ≤ sdw c n b ∧ sdw c n b ≤ pwr 4 n := by
  have := pwr_b (n := n) hc
  unfold sdw
  split <;> omega
set_option maxRecDepth 20000 in
theorem mt_X7_power {kd : Nat → Nat} {K : zK} {X : zX} (hX : ∀ (n pc : Nat) (ls : zLS) (st : List zV) (M : zM), zrun (tb_X7_power kd K) [(5, [])] n X pc ls st M → X pc ls st M) (c : Int32) (n : Int32) (M : zM) (h : (0 ≤ c.toInt ∧ c.toInt ≤ 4) ∧ (0 ≤ n.toInt ∧ n.toInt ≤ 24) ∧ ∀ v : Int64, (v.toInt = pwr c.toInt n.toInt) → K (some (zL v)) M) : X 0 [some (zI (c)), some (zI (n)), none, none, none] [] M := by
  obtain ⟨hc, hn, hK⟩ := h
  obtain ⟨m, hm⟩ : ∃ m : Nat, n.toInt = m := ⟨n.toInt.toNat, by omega⟩
  refine vc_X7_power_0 hX (up (N := m) (Q := fun j => ∀ (k : Int32) (p : Int64), k.toInt = j → p.toInt = pwr c.toInt (j : Int) → X 5 [some (zI c), some (zI n), some (zL p), none, some (zI k)] [] M) (fun k p hk hp => ?_) (fun j hj ih k p hk hp => ?_) 0 (by omega) 0 1 rfl (by show (1 : Int) = _; unfold pwr; simp))
  · exact vc_X7_power_5 hX ⟨fun _ => hK p (by rw [hm]; exact hp), fun q => by simp only [Int32.lt_iff_toInt_lt, Int32.le_iff_toInt_le, ← Int32.toInt_inj, Int32.toInt_add, Int32.toInt_sub, Int32.toInt_mul, Int32.toInt_neg, Int.bmod, Int32.reduceToInt] at q; omega⟩
  · have hb := pwr_b (c := c.toInt) (n := ((j + 1 : Nat) : Int)) hc
    have hb4 := pwr_4 (n := ((j + 1 : Nat) : Int)) (by omega)
    have hci : (c.toInt64).toInt = c.toInt := Int32.toInt_toInt64 c
    refine vc_X7_power_5 hX ⟨fun q => by simp only [Int32.lt_iff_toInt_lt, Int32.le_iff_toInt_le, ← Int32.toInt_inj, Int32.toInt_add, Int32.toInt_sub, Int32.toInt_mul, Int32.toInt_neg, Int.bmod, Int32.reduceToInt] at q; omega, fun _ => ih (k + 1) (p * c.toInt64) (z_inc hk (by omega)) ?_⟩
    rw [pwr_s] at hb ⊢
    rw [L_mul (by rw [hp, hci]; omega) (by rw [hp, hci]; omega), hp, hci]
theorem ms_X7_power : zMS 1 yX7_power cX7_power 5 (some .long) sp_X7_power := by
  intro d hd
  obtain ⟨d', rfl⟩ : ∃ d', d = d' + 1 := ⟨d - 1, by omega⟩
  refine zmethod (tab := tb_X7_power) (cut := [(5, [])]) (by decide) (tk_X7_power d' ) ?_
  intro kd as M K h
  unfold sp_X7_power at h
  split at h
  · rename_i c n
    exact ⟨Nat.le_of_ble_eq_true rfl, fun X hX => mt_X7_power hX c n M h⟩
  · exact h.elim

set_option maxRecDepth 20000 in
theorem mt_X7_sideWays {kd : Nat → Nat} {K : zK} {X : zX} (hX : ∀ (n pc : Nat) (ls : zLS) (st : List zV) (M : zM), zrun (tb_X7_sideWays kd K) [] n X pc ls st M → X pc ls st M) (c : Int32) (n : Int32) (e : Int32) (M : zM) (h : (0 ≤ c.toInt ∧ c.toInt ≤ 4) ∧ (0 ≤ n.toInt ∧ n.toInt ≤ 24) ∧ ∀ v : Int64, (v.toInt = sdw c.toInt n.toInt (decide (¬ e = 0))) → K (some (zL v)) M) : X 0 [some (zI (c)), some (zI (n)), some (zI (e)), none, none] [] M := by
  obtain ⟨hc, hn, hK⟩ := h
  refine vc_X7_sideWays_0 hX ⟨hc, hn, fun v1 h1 => ⟨fun q => hK v1 ?_, fun q => ⟨by decide, hn, fun v2 h2 => hK _ ?_⟩⟩⟩
  · unfold sdw
    rw [if_neg (by simp [q])]
    exact h1
  · have hb := pwr_b (n := n.toInt) hc
    have hb4 := pwr_4 (n := n.toInt) hn.2
    have h2' : v2.toInt = pwr 4 n.toInt := h2
    unfold sdw
    rw [if_pos (by simp [q]), L_sub (by omega) (by omega), h1, h2']
theorem ms_X7_sideWays : zMS 2 yX7_sideWays cX7_sideWays 5 (some .long) sp_X7_sideWays := by
  intro d hd
  obtain ⟨d', rfl⟩ : ∃ d', d = d' + 2 := ⟨d - 2, by omega⟩
  refine zmethod (tab := tb_X7_sideWays) (cut := []) (by decide) (tk_X7_sideWays d' ms_X7_power) ?_
  intro kd as M K h
  unfold sp_X7_sideWays at h
  split at h
  · rename_i c n e
    exact ⟨Nat.le_of_ble_eq_true rfl, fun X hX => mt_X7_sideWays hX c n e M h⟩
  · exact h.elim

theorem mod2 {m n : Nat} (hn : 0 < n) (h : n ≤ m) : 2 * (m % n) ≤ m := by
  have h1 := Nat.mod_lt m hn
  have h2 := Nat.div_add_mod m n
  have h3 : n * 1 ≤ n * (m / n) := Nat.mul_le_mul_left n (Nat.div_pos h hn)
  omega
theorem RpX.fr {kd : Nat → Nat} {M : zM} {s : St} {x y : Int64} (h : RpX kd M s) : RpX kd (zml (zml M 0 6 x) 0 7 y) (s.1, s.2.1, s.2.2.1, (x.toInt, y.toInt), s.2.2.2.2) ∧ fr9 M (zml (zml M 0 6 x) 0 7 y) := by
  refine ⟨⟨h.1, h.2.1, h.2.2.1, ⟨?_, ?_⟩, h.2.2.2.2⟩, rfl, ?_⟩
  · simp [zml]
  · simp [zml]
  · funext j
    simp [zml]
set_option maxRecDepth 20000 in
theorem mt_X7_keepFraction {kd : Nat → Nat} {K : zK} {X : zX} (hX : ∀ (n pc : Nat) (ls : zLS) (st : List zV) (M : zM), zrun (tb_X7_keepFraction kd K) [(9, [10, 11]), (44, [7, 8, 9, 10, 11])] n X pc ls st M → X pc ls st M) (o : Int64) (u : Int64) (M : zM) (h : (kd 0 = 1) ∧ (KdX kd) ∧ ∃ s : St, (RpX kd M s) ∧ ((0 ≤ o.toInt ∧ o.toInt ≤ u.toInt) ∧ 0 < u.toInt ∧ u.toInt ≤ 281474976710656) ∧ ∀ M' : zM, (RpX kd M' (s.1, s.2.1, s.2.2.1, frc o.toInt u.toInt, s.2.2.2.2)) → (fr9 M M') → K none M') : X 0 [some (zR 0 0), some (zL (o)), none, some (zL (u)), none, none, none, none, none, none, none, none] [] M := by
  obtain ⟨k0, hk, s, hR, hb, hK⟩ := h
  obtain ⟨a, ha⟩ : ∃ a : Nat, o.toInt = a := ⟨o.toInt.toNat, by omega⟩
  obtain ⟨b, hb'⟩ : ∃ b : Nat, u.toInt = b := ⟨u.toInt.toNat, by omega⟩
  have fin : ∀ p : Int64, p.toInt = (Nat.gcd b a : Nat) → X 44 [some (zR 0 0), some (zL o), none, some (zL u), none, some (zL p), none, none, none, none, none, none] [] M := by
    intro p hp
    have hg : 0 < Nat.gcd b a := Nat.gcd_pos_of_pos_left _ (by omega)
    have hp0 : 0 < p.toInt := by omega
    have hpn : ¬ p = 0 := fun e => by rw [e] at hp0; exact absurd hp0 (by decide)
    refine vc_X7_keepFraction_44 hX k0 ⟨fun q => ?_, fun _ => ⟨hpn, fun M1 e1 => ⟨hpn, fun M2 e2 => ?_⟩⟩⟩
    · rw [lg_cmp_le, Int64.le_iff_toInt_le] at q
      have q' : p.toInt ≤ 0 := q
      omega
    · rw [e1] at e2
      have hf := hR.fr (x := o / p) (y := u / p)
      rw [← e2] at hf
      have e : frc o.toInt u.toInt = ((o / p).toInt, (u / p).toInt) := by
        unfold frc
        rw [L_div (by omega) hp0, L_div (by omega) hp0, hp, ha, hb']
        rw [show Int.gcd (a : Int) (b : Int) = Nat.gcd b a by rw [Nat.gcd_comm]; rfl]
      exact hK M2 (by rw [e]; exact hf.1) hf.2
  have loop : ∀ (f j m n : Nat) (k : Int32) (p q : Int64), j + f = 100 → k.toInt = j → p.toInt = m → q.toInt = n → n ≤ m → 0 < m → Nat.gcd m n = Nat.gcd b a → m * n * 2 ^ j ≤ 2 ^ 96 → X 9 [some (zR 0 0), some (zL o), none, some (zL u), none, some (zL p), none, some (zL q), none, some (zI k), none, none] [] M := by
    intro f
    induction f with
    | zero =>
      intro j m n k p q hj hk hp hq hle hm hg hs
      have hn : n = 0 := by
        cases n with
        | zero => rfl
        | succ n =>
          have h1 : 1 ≤ m * (n + 1) := Nat.mul_pos hm (Nat.succ_pos n)
          have h2 : 1 * 2 ^ j ≤ m * (n + 1) * 2 ^ j := Nat.mul_le_mul_right _ h1
          rw [show j = 100 by omega] at h2 hs
          have h3 : (2 : Nat) ^ 96 < 1 * 2 ^ 100 := by decide
          omega
      subst hn
      refine vc_X7_keepFraction_9 hX ⟨fun _ => fin p (by rw [hp, ← hg, Nat.gcd_zero_right]), fun qq => by simp only [Int32.lt_iff_toInt_lt, Int32.le_iff_toInt_le, ← Int32.toInt_inj, Int32.toInt_add, Int32.toInt_sub, Int32.toInt_mul, Int32.toInt_neg, Int.bmod, Int32.reduceToInt] at qq; omega⟩
    | succ f ih =>
      intro j m n k p q hj hk hp hq hle hm hg hs
      refine vc_X7_keepFraction_9 hX ⟨fun qq => by simp only [Int32.lt_iff_toInt_lt, Int32.le_iff_toInt_le, ← Int32.toInt_inj, Int32.toInt_add, Int32.toInt_sub, Int32.toInt_mul, Int32.toInt_neg, Int.bmod, Int32.reduceToInt] at qq; omega, fun _ => ⟨fun q0 => ?_, fun q0 => ?_⟩⟩
      · rw [lg_cmp_eq] at q0
        have hn : n = 0 := by rw [q0] at hq; have : (0 : Int) = n := hq; omega
        subst hn
        exact fin p (by rw [hp, ← hg, Nat.gcd_zero_right])
      · rw [lg_cmp_eq] at q0
        have hn : 0 < n := by
          cases n with
          | zero => exact absurd (Int64.toInt_inj.mp (by rw [hq]; rfl)) q0
          | succ n => exact Nat.succ_pos n
        refine ⟨q0, ih (j + 1) n (m % n) (k + 1) q _ (by omega) (z_inc hk (by omega)) hq ?_ (Nat.le_of_lt (Nat.mod_lt _ hn)) hn ?_ ?_⟩
        · rw [L_rem (by omega) (by omega), hp, hq]; rfl
        · rw [Nat.gcd_comm, ← Nat.gcd_rec, Nat.gcd_comm]; exact hg
        · have h2 := mod2 hn hle
          have h3 : n * (2 * (m % n)) ≤ n * m := Nat.mul_le_mul_left n h2
          have h4 : n * (2 * (m % n)) * 2 ^ j ≤ n * m * 2 ^ j := Nat.mul_le_mul_right _ h3
          calc n * (m % n) * 2 ^ (j + 1) = n * (2 * (m % n)) * 2 ^ j := by rw [Nat.pow_succ]; simp only [Nat.mul_assoc, Nat.mul_comm, Nat.mul_left_comm]
            _ ≤ n * m * 2 ^ j := h4
            _ = m * n * 2 ^ j := by rw [Nat.mul_comm n m]
            _ ≤ 2 ^ 96 := hs
  refine vc_X7_keepFraction_0 hX (loop 100 0 b a 0 u o (by omega) rfl hb' ha (by omega) (by omega) rfl ?_)
  have h1 : b * a ≤ 281474976710656 * 281474976710656 := Nat.mul_le_mul (by omega) (by omega)
  have h2 : 281474976710656 * 281474976710656 = 2 ^ 96 := by decide
  omega
theorem ms_X7_keepFraction : zMS 1 yX7_keepFraction cX7_keepFraction 12 none sp_X7_keepFraction := by
  intro d hd
  obtain ⟨d', rfl⟩ : ∃ d', d = d' + 1 := ⟨d - 1, by omega⟩
  refine zmethod (tab := tb_X7_keepFraction) (cut := [(9, [10, 11]), (44, [7, 8, 9, 10, 11])]) (by decide) (tk_X7_keepFraction d' ) ?_
  intro kd as M K h
  unfold sp_X7_keepFraction at h
  split at h
  · rename_i o u
    exact ⟨Nat.le_of_ble_eq_true rfl, fun X hX => mt_X7_keepFraction hX o u M h⟩
  · exact h.elim

theorem evc (s : St) {k : Nat} (hk : k < 7) : (ev_count s (k : Int)).2 = s := by
  unfold ev_count
  rcases (show k = 0 ∨ k = 1 ∨ k = 2 ∨ k = 3 ∨ k = 4 ∨ k = 5 ∨ k = 6 by omega) with rfl | rfl | rfl | rfl | rfl | rfl | rfl <;> rfl
set_option maxRecDepth 20000 in
theorem mt_X7_digest {kd : Nat → Nat} {K : zK} {X : zX} (hX : ∀ (n pc : Nat) (ls : zLS) (st : List zV) (M : zM), zrun (tb_X7_digest kd K) [(6, [])] n X pc ls st M → X pc ls st M)  (M : zM) (h : (kd 0 = 1) ∧ (KdX kd) ∧ ∃ s : St, (RpX kd M s) ∧ ∀ v : Int64, (v = ev_digest s) → ∀ M' : zM, (RpX kd M' s) → (fr9 M M') → K (some (zL v)) M') : X 0 [some (zR 0 0), none, none, none] [] M := by
  obtain ⟨_, hk, s, hR, hK⟩ := h
  obtain ⟨k0, k1, k2, k3, k4, k5, k6, k7, k8, ki⟩ := id hk
  refine vc_X7_digest_0 hX (up (N := 7) (Q := fun j => ∀ (M1 : zM) (p : Int64) (k : Int32), RpX kd M1 s → fr9 M M1 → k.toInt = j → p = cts s j → X 6 [some (zR 0 0), some (zL p), none, some (zI k)] [] M1) (fun M1 p k hR hf hk1 hp => ?_) (fun j hj ih M1 p k hR hf hk1 hp => ?_) 0 (by omega) M 1163 0 hR ⟨rfl, rfl⟩ rfl rfl)
  · refine vc_X7_digest_6 hX k0 k4 k1 k2 ⟨fun _ => ⟨_, hR.1.1, fun v1 h1 => ⟨_, hR.1.2.2, fun v2 h2 v3 h3 v4 h4 => hK v4 ?_ M1 hR hf⟩⟩, fun q => by simp only [Int32.lt_iff_toInt_lt, Int32.le_iff_toInt_le, ← Int32.toInt_inj, Int32.toInt_add, Int32.toInt_sub, Int32.toInt_mul, Int32.toInt_neg, Int.bmod, Int32.reduceToInt] at q; omega⟩
    rw [h4, h3, h2, h1, hp, L_of hR.2.2.2.1.1, L_of hR.2.2.2.1.2]
    rfl
  · refine vc_X7_digest_6 hX k0 k4 k1 k2 ⟨fun q => by simp only [Int32.lt_iff_toInt_lt, Int32.le_iff_toInt_le, ← Int32.toInt_inj, Int32.toInt_add, Int32.toInt_sub, Int32.toInt_mul, Int32.toInt_neg, Int.bmod, Int32.reduceToInt] at q; omega, fun _ => ⟨hk, s, hR, fun v5 h5 M5 g5 f5 v6 h6 => ?_⟩⟩
    rw [hk1] at h5 g5
    rw [evc s hj] at g5
    refine ih M5 v6 (k + 1) g5 (hf.tr f5) (z_inc hk1 (by omega)) ?_
    rw [h6, z_i64, h5, hp]
    rfl
theorem ms_X7_digest : zMS 8 yX7_digest cX7_digest 4 (some .long) sp_X7_digest := by
  intro d hd
  obtain ⟨d', rfl⟩ : ∃ d', d = d' + 8 := ⟨d - 8, by omega⟩
  refine zmethod (tab := tb_X7_digest) (cut := [(6, [])]) (by decide) (tk_X7_digest d' ms_X7_count ms_X7_mix ms_X3_mixed ms_X0_mixed) ?_
  intro kd as M K h
  unfold sp_X7_digest at h
  split at h
  · skip
    exact ⟨Nat.le_of_ble_eq_true rfl, fun X hX => mt_X7_digest hX  M h⟩
  · exact h.elim

theorem RpX.d5 {kd : Nat → Nat} {M : zM} {s : St} {S : zB} (h : RpX kd M s) : RpX kd (zbs M 5 S) s ∧ fr9 M (zbs M 5 S) :=
  h.g (M' := zbs M 5 S) (r := s.1) (b := s.2.2.1) (by rw [zbs_ne (by decide)]; exact h.1.1) (by rw [zbs_ne (by decide)]; exact h.1.2.1) (by rw [zbs_ne (by decide)]; exact h.1.2.2) (by rw [zbs_ne (by decide)]; exact h.2.2.1) (fun n hn => zbs_ne (by omega)) rfl
set_option maxRecDepth 20000 in
theorem mt_X7_centuries {kd : Nat → Nat} {K : zK} {X : zX} (hX : ∀ (n pc : Nat) (ls : zLS) (st : List zV) (M : zM), zrun (tb_X7_centuries kd K) [(47, [])] n X pc ls st M → X pc ls st M) (x : Int32) (n : Int32) (M : zM) (h : (kd 0 = 1) ∧ (KdX kd) ∧ ∃ s : St, (RpX kd M s) ∧ ∀ v : Int32, (v.toInt = (ev_centuries s x.toInt n.toInt).1) → ∀ M' : zM, (RpX kd M' (ev_centuries s x.toInt n.toInt).2) → (fr9 M M') → K (some (zI v)) M') : X 0 [some (zR 0 0), some (zI (x)), some (zI (n)), none, none, none] [] M := by
  obtain ⟨_, hk, s, hR, hK⟩ := h
  obtain ⟨k0, k1, k2, k3, k4, k5, k6, k7, k8, ki⟩ := id hk
  have bad : ¬ (inn x.toInt 0 999999 ∧ inn n.toInt 0 30) → ∃ s2 : St, (RpX kd M s2) ∧ ∃ k2 : Nat, (k2 < 3 ∧ (-2 : Int32).toInt = -2 - (k2 : Int)) ∧ ∀ v2 : Int32, (v2 = (-2 : Int32)) → ∀ M2 : zM, (RpX kd M2 (sRf s2 k2)) → (fr9 M M2) → K (some (zI v2)) M2 := fun q =>
    rfq hR hK 0 (-2) (by decide) (by unfold ev_centuries; rw [if_neg q])
  refine vc_X7_centuries_0 hX k0 k2 k5 k1 (fun v1 h1 => ⟨fun q => bad ?_, fun q1 v3 h3 => ⟨fun q3 => ⟨by decide, _, hR.1.1, fun S4 g4 M4 e4 => ?_⟩, fun q => bad ?_⟩⟩)
  · rw [h1, zp_0] at q; exact fun x => q x.1
  · rw [h1, zp_n] at q1
    rw [h3, zp_n] at q3
    have q1' : 0 ≤ x.toInt ∧ x.toInt ≤ 999999 := q1
    have q3' : 0 ≤ n.toInt ∧ n.toInt ≤ 30 := q3
    have hev : ev_centuries s x.toInt n.toInt = (sk_qu (cny n.toInt.toNat x.toInt s.1.1) (cny n.toInt.toNat x.toInt s.1.1).2, s) := by unfold ev_centuries; rw [if_pos ⟨q1', q3'⟩]
    rw [hev] at hK
    obtain ⟨m, hm⟩ : ∃ m : Nat, n.toInt = m := ⟨n.toInt.toNat, by omega⟩
    have hmt : n.toInt.toNat = m := by omega
    rw [hmt] at hK
    have hR4 := hR.d5 (S := S4)
    rw [← e4] at hR4
    refine up (N := m) (Q := fun j => ∀ (M1 : zM) (p : Int64) (k : Int32) (a : Sk), RpX kd M1 s → fr9 M M1 → k.toInt = j → (0 ≤ p.toInt ∧ p.toInt < 2147483648) → RpS (M1.1 5) a → cny (m - j) p.toInt a = cny m x.toInt s.1.1 → X 47 [some (zR 0 0), some (zI x), some (zI n), some (zL p), none, some (zI k)] [] M1) (fun M1 p k a hR hf hk1 hp ha hc => ?_) (fun j hj ih M1 p k a hR hf hk1 hp ha hc => ?_) 0 (by omega) M4 _ 0 s.1.1 hR4.1 hR4.2 rfl (by rw [Int32.toInt_toInt64]; omega) (by rw [e4, zbs_at]; exact g4) (by rw [Int32.toInt_toInt64]; rfl)
    · have hc' : a = cny m x.toInt s.1.1 := by rw [← hc, Nat.sub_self]; rfl
      refine vc_X7_centuries_47 hX k5 k0 ⟨fun _ => ⟨a, ha, by rw [ha.2.2]; have := ha.1.1; omega, fun v1 h1 => hK v1 ?_ M1 hR hf⟩, fun q => by simp only [Int32.lt_iff_toInt_lt, Int32.le_iff_toInt_le, ← Int32.toInt_inj, Int32.toInt_add, Int32.toInt_sub, Int32.toInt_mul, Int32.toInt_neg, Int.bmod, Int32.reduceToInt] at q; omega⟩
      rw [h1, ha.2.2, hc']
    · refine vc_X7_centuries_47 hX k5 k0 ⟨fun q => by simp only [Int32.lt_iff_toInt_lt, Int32.le_iff_toInt_le, ← Int32.toInt_inj, Int32.toInt_add, Int32.toInt_sub, Int32.toInt_mul, Int32.toInt_neg, Int.bmod, Int32.reduceToInt] at q; omega, fun _ => ?_⟩
      have e1 : (p * (1103515245 : Int64) + (12345 : Int64)).toInt = p.toInt * 1103515245 + 12345 := by
        have hA : (1103515245 : Int64).toInt = 1103515245 := rfl
        have hB : (12345 : Int64).toInt = 12345 := rfl
        have hmul : (p * (1103515245 : Int64)).toInt = p.toInt * 1103515245 := L_mul (by rw [hA]; omega) (by rw [hA]; omega)
        rw [L_add (by rw [hmul, hB]; omega) (by rw [hmul, hB]; omega), hmul, hB]
      generalize p * (1103515245 : Int64) + (12345 : Int64) = y at e1
      have e2 : (y - y / (2147483648 : Int64) * (2147483648 : Int64)).toInt = (p.toInt * 1103515245 + 12345) % 2147483648 := by
        rw [L_rem (by omega) (by decide), e1]; rfl
      generalize y - y / (2147483648 : Int64) * (2147483648 : Int64) = z at e2
      have e3 : ((z / (65536 : Int64)).toInt32).toInt = (p.toInt * 1103515245 + 12345) % 2147483648 / 65536 := by
        have hd : (z / (65536 : Int64)).toInt = (p.toInt * 1103515245 + 12345) % 2147483648 / 65536 := by rw [L_div (by omega) (by decide), e2]; rfl
        rw [L_i32 (by omega) (by omega), hd]
      have e4 : ((z / (1048576 : Int64) - z / (1048576 : Int64) / (50 : Int64) * (50 : Int64)).toInt32).toInt = (p.toInt * 1103515245 + 12345) % 2147483648 / 1048576 % 50 := by
        have hd : (z / (1048576 : Int64)).toInt = (p.toInt * 1103515245 + 12345) % 2147483648 / 1048576 := by rw [L_div (by omega) (by decide), e2]; rfl
        have hr : (z / (1048576 : Int64) - z / (1048576 : Int64) / (50 : Int64) * (50 : Int64)).toInt = (p.toInt * 1103515245 + 12345) % 2147483648 / 1048576 % 50 := by rw [L_rem (by omega) (by decide), hd]; rfl
        rw [L_i32 (by omega) (by omega), hr]
      rw [e3, e4]
      refine ⟨a, ha, by omega, fun S2 g2 M2 e5 => ⟨sk_ch a ((p.toInt * 1103515245 + 12345) % 2147483648 / 65536), by rw [e5, zbs_at]; exact g2, by omega, fun S3 g3 M3 e6 => ?_⟩⟩
      have e6' : M3 = zbs M1 5 S3 := by rw [e6, e5, zbs_bs]
      have hR3 := hR.d5 (S := S3)
      rw [← e6'] at hR3
      refine ih M3 z (k + 1) _ hR3.1 (hf.tr hR3.2) (z_inc hk1 (by omega)) (by omega) (by rw [e6', zbs_at]; exact g3) ?_
      rw [← hc, e2, show m - j = (m - (j + 1)) + 1 by omega]
      rfl
  · rw [h3, zp_0] at q; exact fun x => q x.2
theorem ms_X7_centuries : zMS 7 yX7_centuries cX7_centuries 6 (some .int) sp_X7_centuries := by
  intro d hd
  obtain ⟨d', rfl⟩ : ∃ d', d = d' + 7 := ⟨d - 7, by omega⟩
  refine zmethod (tab := tb_X7_centuries) (cut := [(47, [])]) (by decide) (tk_X7_centuries d' ms_X7_within ms_X7_refuse ms_X3_take ms_X3_chance ms_X3_pass ms_X3_quarrelsIn) ?_
  intro kd as M K h
  unfold sp_X7_centuries at h
  split at h
  · rename_i x n
    exact ⟨Nat.le_of_ble_eq_true rfl, fun X hX => mt_X7_centuries hX x n M h⟩
  · exact h.elim

theorem sk_N_10 (a : Sk) (th y : Int) : sk_N a th 1 y + sk_N a th 0 y ≤ 24 := by
  have hq : ∀ c i : Int, b2i (sk_q a c i th 1 y) + b2i (sk_q a c i th 0 y) ≤ 1 := by
    intro c i
    unfold sk_q
    cases sk_at a c i with
    | none => simp [b2i]
    | some l =>
      simp only
      by_cases h1 : l.2.2.1 = 1
      · have h0 : ¬ l.2.2.1 = 0 := by omega
        simp [h0, b2i]
        split <;> omega
      · simp [h1, b2i]
        split <;> omega
  have hn : ∀ c : Int, sk_n a c th 1 y + sk_n a c th 0 y ≤ 4 := by
    intro c
    unfold sk_n
    simp only [zsm]
    have h0 := hq c (0 : Nat)
    have h1 := hq c (1 : Nat)
    have h2 := hq c (2 : Nat)
    have h3 := hq c (3 : Nat)
    omega
  unfold sk_N
  simp only [zsm]
  have h0 := hn (0 : Nat)
  have h1 := hn (1 : Nat)
  have h2 := hn (2 : Nat)
  have h3 := hn (3 : Nat)
  have h4 := hn (4 : Nat)
  have h5 := hn (5 : Nat)
  omega
set_option maxRecDepth 20000 in
theorem mt_X7_thumbs {kd : Nat → Nat} {K : zK} {X : zX} (hX : ∀ (n pc : Nat) (ls : zLS) (st : List zV) (M : zM), zrun (tb_X7_thumbs kd K) [] n X pc ls st M → X pc ls st M) (g : Int32) (y : Int32) (z : Int32) (c : Int32) (M : zM) (h : (kd 0 = 1) ∧ (KdX kd) ∧ ∃ s : St, (RpX kd M s) ∧ ∀ v : Int32, (v.toInt = (ev_thumbs s g.toInt y.toInt z.toInt c.toInt).1) → ∀ M' : zM, (RpX kd M' (ev_thumbs s g.toInt y.toInt z.toInt c.toInt).2) → (fr9 M M') → K (some (zI v)) M') : X 0 [some (zR 0 0), some (zI (g)), some (zI (y)), some (zI (z)), some (zI (c)), none, none, none, none] [] M := by
  obtain ⟨_, hk, s, hR, hK⟩ := h
  obtain ⟨k0, k1, k2, k3, k4, k5, k6, k7, k8, ki⟩ := id hk
  have bad : ¬ (isT g.toInt ∧ isY y.toInt ∧ inn z.toInt 0 3 ∧ inn c.toInt 0 4) → ∃ s2 : St, (RpX kd M s2) ∧ ∃ k2 : Nat, (k2 < 3 ∧ (-2 : Int32).toInt = -2 - (k2 : Int)) ∧ ∀ v2 : Int32, (v2 = (-2 : Int32)) → ∀ M2 : zM, (RpX kd M2 (sRf s2 k2)) → (fr9 M M2) → K (some (zI v2)) M2 := fun q =>
    rfq hR hK 0 (-2) (by decide) (by unfold ev_thumbs; rw [if_neg q])
  refine vc_X7_thumbs_0 hX k0 k2 k1 (fun v1 h1 => ⟨fun q => bad ?_, fun q1 v3 h3 => ⟨fun q => bad ?_, fun q3 v5 h5 => ⟨fun q => bad ?_, fun q5 v7 h7 => ⟨fun q7 => ?_, fun q => bad ?_⟩⟩⟩⟩)
  · rw [h1, zp_0] at q; exact fun x => q x.1
  · rw [h3, zp_0] at q; exact fun x => q x.2.1
  · rw [h5, zp_0] at q; exact fun x => q x.2.2.1
  · rw [h1, zp_n] at q1
    rw [h3, zp_n] at q3
    rw [h5, zp_n] at q5
    rw [h7, zp_n] at q7
    have q5' : 0 ≤ z.toInt ∧ z.toInt ≤ 3 := q5
    have q7' : 0 ≤ c.toInt ∧ c.toInt ≤ 4 := q7
    have hall : isT g.toInt ∧ isY y.toInt ∧ inn z.toInt 0 3 ∧ inn c.toInt 0 4 := ⟨q1, q3, q5', q7'⟩
    refine ⟨_, hR.1.1, by omega, fun v8 h8 => ⟨_, hR.1.1, by omega, fun v9 h9 => ?_⟩⟩
    have h8' : v8.toInt = sk_N s.1.1 g.toInt 1 y.toInt := h8
    have h9' : v9.toInt = sk_N s.1.1 g.toInt 0 y.toInt := h9
    have b1 := sk_N_b s.1.1 g.toInt 1 y.toInt
    have b0 := sk_N_b s.1.1 g.toInt 0 y.toInt
    have b10 := sk_N_10 s.1.1 g.toInt y.toInt
    have hsum : (v8 + v9).toInt = v8.toInt + v9.toInt := by simp only [Int32.lt_iff_toInt_lt, Int32.le_iff_toInt_le, ← Int32.toInt_inj, Int32.toInt_add, Int32.toInt_sub, Int32.toInt_mul, Int32.toInt_neg, Int.bmod, Int32.reduceToInt]; omega
    have key : ∀ (x y' w : Int64) (bx b_y : Bool), x.toInt = sdw c.toInt v8.toInt bx → y'.toInt = sdw c.toInt v9.toInt b_y → w.toInt = pwr 4 (v8 + v9).toInt → bx = decide (z.toInt % 2 = 1) → b_y = decide (z.toInt / 2 % 2 = 1) → (KdX kd) ∧ ∃ s13 : St, (RpX kd M s13) ∧ ((0 ≤ (x * y').toInt ∧ (x * y').toInt ≤ w.toInt) ∧ 0 < w.toInt ∧ w.toInt ≤ 281474976710656) ∧ ∀ M13 : zM, (RpX kd M13 (s13.1, s13.2.1, s13.2.2.1, frc (x * y').toInt w.toInt, s13.2.2.2.2)) → (fr9 M M13) → K (some (zI ((1 : Int32)))) M13 := by
      intro x y' w bx b_y hx hy hw hbx hby
      have p1 := sdw_b (n := v8.toInt) (b := bx) q7'
      have p2 := sdw_b (n := v9.toInt) (b := b_y) q7'
      have p3 := pwr_4 (n := (v8 + v9).toInt) (by omega)
      have hm : sdw c.toInt v8.toInt bx * sdw c.toInt v9.toInt b_y ≤ pwr 4 v8.toInt * pwr 4 v9.toInt := Int.mul_le_mul p1.2 p2.2 p2.1 (by omega)
      have hm0 : 0 ≤ sdw c.toInt v8.toInt bx * sdw c.toInt v9.toInt b_y := Int.mul_nonneg p1.1 p2.1
      rw [← pwr_add (by omega) (by omega), ← hsum] at hm
      have hxy : (x * y').toInt = sdw c.toInt v8.toInt bx * sdw c.toInt v9.toInt b_y := by rw [← hx, ← hy]; exact L_mul (by rw [hx, hy]; omega) (by rw [hx, hy]; omega)
      have hev : ev_thumbs s g.toInt y.toInt z.toInt c.toInt = (1, (s.1, s.2.1, s.2.2.1, frc (x * y').toInt w.toInt, s.2.2.2.2)) := by
        unfold ev_thumbs
        rw [if_pos hall, hxy, hw, hsum, hbx, hby, h8', h9']
      refine ⟨hk, s, hR, ⟨⟨by rw [hxy]; exact hm0, by rw [hxy, hw]; exact hm⟩, by rw [hw]; exact p3.1, by rw [hw]; exact p3.2⟩, fun M13 g13 f13 => hK _ (by rw [hev]; rfl) M13 (by rw [hev]; exact g13) f13⟩
    have hz : z = 0 ∨ z = 1 ∨ z = 2 ∨ z = 3 := by
      rcases (show z.toInt = 0 ∨ z.toInt = 1 ∨ z.toInt = 2 ∨ z.toInt = 3 by omega) with e | e | e | e
      · exact Or.inl (Int32.toInt_inj.mp (by rw [e]; rfl))
      · exact Or.inr (Or.inl (Int32.toInt_inj.mp (by rw [e]; rfl)))
      · exact Or.inr (Or.inr (Or.inl (Int32.toInt_inj.mp (by rw [e]; rfl))))
      · exact Or.inr (Or.inr (Or.inr (Int32.toInt_inj.mp (by rw [e]; rfl))))
    have r8 : 0 ≤ v8.toInt ∧ v8.toInt ≤ 24 := by omega
    have r9 : 0 ≤ v9.toInt ∧ v9.toInt ≤ 24 := by omega
    have rs : 0 ≤ (v8 + v9).toInt ∧ (v8 + v9).toInt ≤ 24 := by omega
    refine ⟨fun qa => ⟨q7', r8, fun v10 h10 => ⟨fun qb => ⟨q7', r9, fun v11 h11 => ⟨by decide, rs, fun v12 h12 => key v10 v11 v12 _ _ h10 h11 h12 ?_ ?_⟩⟩, fun qb => ⟨q7', r9, fun v11 h11 => ⟨by decide, rs, fun v12 h12 => key v10 v11 v12 _ _ h10 h11 h12 ?_ ?_⟩⟩⟩⟩, fun qa => ⟨q7', r8, fun v10 h10 => ⟨fun qb => ⟨q7', r9, fun v11 h11 => ⟨by decide, rs, fun v12 h12 => key v10 v11 v12 _ _ h10 h11 h12 ?_ ?_⟩⟩, fun qb => ⟨q7', r9, fun v11 h11 => ⟨by decide, rs, fun v12 h12 => key v10 v11 v12 _ _ h10 h11 h12 ?_ ?_⟩⟩⟩⟩⟩ <;> rcases hz with rfl | rfl | rfl | rfl <;> first | decide | exact absurd qa (by decide) | exact absurd qb (by decide)
  · rw [h7, zp_0] at q; exact fun x => q x.2.2.2
theorem ms_X7_thumbs : zMS 5 yX7_thumbs cX7_thumbs 9 (some .int) sp_X7_thumbs := by
  intro d hd
  obtain ⟨d', rfl⟩ : ∃ d', d = d' + 5 := ⟨d - 5, by omega⟩
  refine zmethod (tab := tb_X7_thumbs) (cut := []) (by decide) (tk_X7_thumbs d' ms_X7_isThing ms_X7_isYear ms_X7_within ms_X7_refuse ms_X3_tally ms_X7_sideWays ms_X7_power ms_X7_keepFraction) ?_
  intro kd as M K h
  unfold sp_X7_thumbs at h
  split at h
  · rename_i g y z c
    exact ⟨Nat.le_of_ble_eq_true rfl, fun X hX => mt_X7_thumbs hX g y z c M h⟩
  · exact h.elim

