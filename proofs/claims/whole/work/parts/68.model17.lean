set_option maxRecDepth 20000 in
theorem mt_X8_canBe {kd : Nat → Nat} {K : zK} {X : zX} (hX : ∀ (n pc : Nat) (ls : zLS) (st : List zV) (M : zM), zrun (tb_X8_canBe kd K) [(6, [6, 7])] n X pc ls st M → X pc ls st M) (c : Int32) (i : Int32) (k : Int32) (M : zM) (h : (kd 9 = 8) ∧ ∃ s : St, (RpM M s) ∧ (RpF (M.1 9 5) s.1.1) ∧ ∃ l : Ly, (sk_at s.1.1 c.toInt i.toInt = some l) ∧ ∀ v : Int32, (v = zp (s.1.2.2.all (seOk k.toInt l (sk_at s.1.1 c.toInt (i.toInt + 1)) c.toInt i.toInt) = true)) → K (some (zI v)) M) : X 0 [some (zR 9 0), some (zI (c)), some (zI (i)), some (zI (k)), none, none, none, none] [] M := by
  obtain ⟨hk, s, hR, ha, l, hl, hK⟩ := h
  have hL := hR.1.2.1
  have hs := hL.2.1
  have h6 := hL.1
  refine vc_X8_canBe_0 hX (up (N := s.1.2.2.length) (Q := fun j => ∀ b n : Int32, n.toInt = j → b = zp ((s.1.2.2.take j).all (seOk k.toInt l (sk_at s.1.1 c.toInt (i.toInt + 1)) c.toInt i.toInt) = true) → X 6 [some (zR 9 0), some (zI c), some (zI i), some (zI k), some (zI b), some (zI n), none, none] [] M) (fun b n hn hb => ?_) (fun j hj ih b n hn hb => ?_) 0 (by omega) 1 0 rfl (zp_t (by simp)).symm)
  · refine vc_X8_canBe_6 hX hk ?_
    rw [n127]
    refine ⟨zin_of (n := 915) (by rw [hk]; rfl) (by decide) (by decide), fun _ => ⟨by rw [hb]; exact zp_01, hK _ (by rw [hb, List.take_length])⟩, fun q => ?_⟩
    rw [Int32.le_iff_toInt_le, hs] at q; omega
  · have hget : s.1.2.2[j]? = some (s.1.2.2[j]'hj) := List.getElem?_eq_getElem hj
    generalize s.1.2.2[j]'hj = x at hget
    obtain ⟨g0, g1, g2, g3, g4⟩ := hL.2.2 j x hget
    have e0 : ((129 : Int32) + ((4 : Int32) * n)).toInt = 129 + 4 * (j : Int) := by simp only [Int32.lt_iff_toInt_lt, Int32.le_iff_toInt_le, ← Int32.toInt_inj, Int32.toInt_add, Int32.toInt_sub, Int32.toInt_mul, Int32.toInt_neg, Int.bmod, Int32.reduceToInt]; omega
    have e1 : (((129 : Int32) + ((4 : Int32) * n)) + (1 : Int32)).toInt = 129 + 4 * (j : Int) + 1 := by simp only [Int32.lt_iff_toInt_lt, Int32.le_iff_toInt_le, ← Int32.toInt_inj, Int32.toInt_add, Int32.toInt_sub, Int32.toInt_mul, Int32.toInt_neg, Int.bmod, Int32.reduceToInt]; omega
    have e2 : (((129 : Int32) + ((4 : Int32) * n)) + (2 : Int32)).toInt = 129 + 4 * (j : Int) + 2 := by simp only [Int32.lt_iff_toInt_lt, Int32.le_iff_toInt_le, ← Int32.toInt_inj, Int32.toInt_add, Int32.toInt_sub, Int32.toInt_mul, Int32.toInt_neg, Int.bmod, Int32.reduceToInt]; omega
    have e3 : (((129 : Int32) + ((4 : Int32) * n)) + (3 : Int32)).toInt = 129 + 4 * (j : Int) + 3 := by simp only [Int32.lt_iff_toInt_lt, Int32.le_iff_toInt_le, ← Int32.toInt_inj, Int32.toInt_add, Int32.toInt_sub, Int32.toInt_mul, Int32.toInt_neg, Int.bmod, Int32.reduceToInt]; omega
    have c0 : ((129 : Int32) + ((4 : Int32) * n)).toNatClampNeg = 129 + 4 * j := by rw [z_cl]; omega
    have c1 : (((129 : Int32) + ((4 : Int32) * n)) + (1 : Int32)).toNatClampNeg = 129 + 4 * j + 1 := by rw [z_cl]; omega
    have c2 : (((129 : Int32) + ((4 : Int32) * n)) + (2 : Int32)).toNatClampNeg = 129 + 4 * j + 2 := by rw [z_cl]; omega
    have c3 : (((129 : Int32) + ((4 : Int32) * n)) + (3 : Int32)).toNatClampNeg = 129 + 4 * j + 3 := by rw [z_cl]; omega
    have zz : ∀ x : Int32, 0 ≤ x.toInt → x.toInt < 915 → zin (kd 9) 1 0 x := fun x h0 h1 => zin_of (n := 915) (by rw [hk]; rfl) h0 h1
    have ald : ((s.1.2.2.take (j + 1)).all (seOk k.toInt l (sk_at s.1.1 c.toInt (i.toInt + 1)) c.toInt i.toInt) = true) ↔ ((s.1.2.2.take j).all (seOk k.toInt l (sk_at s.1.1 c.toInt (i.toInt + 1)) c.toInt i.toInt) = true ∧ seOk k.toInt l (sk_at s.1.1 c.toInt (i.toInt + 1)) c.toInt i.toInt x = true) := by
      rw [List.take_add_one, hget, List.all_append, Bool.and_eq_true]
      simp only [Option.toList_some, List.all_cons, List.all_nil, Bool.and_true]
    have bad : b = 0 → X 6 [some (zR 9 0), some (zI c), some (zI i), some (zI k), some (zI ((0 : Int32))), some (zI (n + 1)), none, none] [] M := fun q => ih 0 (n + 1) (z_inc hn (by omega)) (zp_f (fun h => zp_0.mp (by rw [← hb]; exact q) (ald.mp h).1)).symm
    have no : seOk k.toInt l (sk_at s.1.1 c.toInt (i.toInt + 1)) c.toInt i.toInt x = false → X 6 [some (zR 9 0), some (zI c), some (zI i), some (zI k), some (zI ((0 : Int32))), some (zI (n + 1)), none, none] [] M := fun q => ih 0 (n + 1) (z_inc hn (by omega)) (zp_f (fun h => by have := (ald.mp h).2; rw [q] at this; cases this)).symm
    have yes : ¬ b = 0 → seOk k.toInt l (sk_at s.1.1 c.toInt (i.toInt + 1)) c.toInt i.toInt x = true → X 6 [some (zR 9 0), some (zI c), some (zI i), some (zI k), some (zI ((1 : Int32))), some (zI (n + 1)), none, none] [] M := fun q1 q2 => ih 1 (n + 1) (z_inc hn (by omega)) (zp_t (ald.mpr ⟨zp_n.mp (by rw [← hb]; exact q1), q2⟩)).symm
    refine vc_X8_canBe_6 hX hk ?_
    rw [n127, c0, c1, c2, c3]
    have hy := g0.1
    refine ⟨zz _ (by decide) (by decide), fun q => ?_, fun _ => ⟨zz _ (by omega) (by omega), fun q1 => ⟨bad, fun qb => yes qb ?_⟩, fun q1 => ⟨zz _ (by omega) (by omega), fun q2 => ⟨bad, fun qb => yes qb ?_⟩, fun q2 => ⟨bad, fun qb => ⟨zz _ (by omega) (by omega), s.1.1, ha, l, hl, by rw [g3]; omega, fun v3 hv3 => ⟨zz _ (by omega) (by omega), fun q4 => ⟨fun q5 => no ?_, fun q5 => yes qb ?_⟩, fun q4 => ⟨fun q5 => no ?_, fun q5 => yes qb ?_⟩⟩⟩⟩⟩⟩⟩
    · rw [Int32.le_iff_toInt_le, hs] at q; omega
    · rw [← Int32.toInt_inj, g1] at q1; simp [seOk, q1]
    · rw [← Int32.toInt_inj, g2] at q2; simp [seOk, q2]
    · rw [← Int32.toInt_inj, g4] at q4
      have q4' : ¬ x.2.2.2 = 1 := q4
      rw [hv3, zp_n, g3] at q5
      rw [← Int32.toInt_inj, g1] at q1
      rw [← Int32.toInt_inj, g2] at q2
      simp [seOk, q4', q5, q1, q2]
    · rw [← Int32.toInt_inj, g4] at q4
      have q4' : ¬ x.2.2.2 = 1 := q4
      rw [hv3, zp_0, g3] at q5
      simp [seOk, q4', q5]
    · rw [← Int32.toInt_inj, g4] at q4
      have q4' : x.2.2.2 = 1 := q4
      have h5' : ¬ bnd k.toInt l (sk_at s.1.1 c.toInt (i.toInt + 1)) x.2.2.1 = true := by
        rw [hv3, g3] at q5
        exact fun q => q5 (zp_t q)
      rw [← Int32.toInt_inj, g1] at q1
      rw [← Int32.toInt_inj, g2] at q2
      simp [seOk, q4', h5', q1, q2]
    · rw [← Int32.toInt_inj, g4] at q4
      have q4' : x.2.2.2 = 1 := q4
      have h5' : bnd k.toInt l (sk_at s.1.1 c.toInt (i.toInt + 1)) x.2.2.1 = true := by
        rw [hv3, g3] at q5
        exact zp_n.mp (by rw [q5]; decide)
      simp [seOk, q4', h5']
theorem ms_X8_canBe : zMS 5 yX8_canBe cX8_canBe 8 (some .boolean) sp_X8_canBe := by
  intro d hd
  obtain ⟨d', rfl⟩ : ∃ d', d = d' + 5 := ⟨d - 5, by omega⟩
  refine zmethod (tab := tb_X8_canBe) (cut := [(6, [6, 7])]) (by decide) (tk_X8_canBe d' ms_X8_bindsAs) ?_
  intro kd as M K h
  unfold sp_X8_canBe at h
  split at h
  · rename_i c i k
    exact ⟨Nat.le_of_ble_eq_true rfl, fun X hX => mt_X8_canBe hX c i k M h⟩
  · exact h.elim

set_option maxRecDepth 20000 in
theorem mt_X8_kindsOf {kd : Nat → Nat} {K : zK} {X : zX} (hX : ∀ (n pc : Nat) (ls : zLS) (st : List zV) (M : zM), zrun (tb_X8_kindsOf kd K) [(5, [])] n X pc ls st M → X pc ls st M) (c : Int32) (i : Int32) (M : zM) (h : (kd 9 = 8) ∧ ∃ s : St, (RpM M s) ∧ (RpF (M.1 9 5) s.1.1) ∧ ∃ l : Ly, (sk_at s.1.1 c.toInt i.toInt = some l) ∧ ∀ v : Int32, (v.toInt = seFit s.1.2.2 l (sk_at s.1.1 c.toInt (i.toInt + 1)) c.toInt i.toInt) → K (some (zI v)) M) : X 0 [some (zR 9 0), some (zI (c)), some (zI (i)), none, none] [] M := by
  obtain ⟨hk, s, hR, ha, l, hl, hK⟩ := h
  refine vc_X8_kindsOf_0 hX (up (N := 6) (Q := fun j => ∀ w k : Int32, k.toInt = j → w.toInt = zsm (fun k => if s.1.2.2.all (seOk k l (sk_at s.1.1 c.toInt (i.toInt + 1)) c.toInt i.toInt) then 2 ^ k else 0) j → X 5 [some (zR 9 0), some (zI c), some (zI i), some (zI w), some (zI k)] [] M) (fun w k hkk hw => ?_) (fun j hj ih w k hkk hw => ?_) 0 (by omega) 0 0 rfl rfl)
  · refine vc_X8_kindsOf_5 hX hk ⟨fun _ => hK _ hw, fun q => ?_⟩
    simp only [Int32.lt_iff_toInt_lt, Int32.le_iff_toInt_le, ← Int32.toInt_inj, Int32.toInt_add, Int32.toInt_sub, Int32.toInt_mul, Int32.toInt_neg, Int.bmod, Int32.reduceToInt] at q; omega
  · have bw := zsm_bit (p := fun k => s.1.2.2.all (seOk k l (sk_at s.1.1 c.toInt (i.toInt + 1)) c.toInt i.toInt)) j
    refine vc_X8_kindsOf_5 hX hk ⟨fun q => ?_, fun _ => ⟨s, hR, ha, l, hl, fun v1 hv1 => ⟨fun h1 => ih _ _ (z_inc hkk (by omega)) ?_, fun h1 => ih _ _ (z_inc hkk (by omega)) ?_⟩⟩⟩
    · simp only [Int32.lt_iff_toInt_lt, Int32.le_iff_toInt_le, ← Int32.toInt_inj, Int32.toInt_add, Int32.toInt_sub, Int32.toInt_mul, Int32.toInt_neg, Int.bmod, Int32.reduceToInt] at q; omega
    · rw [hv1, zp_0, hkk] at h1
      rw [zsm_s, i_or0, hw, if_neg h1]; simp
    · rw [hv1, zp_n, hkk] at h1
      rw [zsm_s, z_orb hj hkk (by omega) (by omega), hw, if_pos h1]
theorem ms_X8_kindsOf : zMS 6 yX8_kindsOf cX8_kindsOf 5 (some .int) sp_X8_kindsOf := by
  intro d hd
  obtain ⟨d', rfl⟩ : ∃ d', d = d' + 6 := ⟨d - 6, by omega⟩
  refine zmethod (tab := tb_X8_kindsOf) (cut := [(5, [])]) (by decide) (tk_X8_kindsOf d' ms_X8_canBe) ?_
  intro kd as M K h
  unfold sp_X8_kindsOf at h
  split at h
  · rename_i c i
    exact ⟨Nat.le_of_ble_eq_true rfl, fun X hX => mt_X8_kindsOf hX c i M h⟩
  · exact h.elim

set_option maxRecDepth 20000 in
theorem mt_X8_is {kd : Nat → Nat} {K : zK} {X : zX} (hX : ∀ (n pc : Nat) (ls : zLS) (st : List zV) (M : zM), zrun (tb_X8_is kd K) [] n X pc ls st M → X pc ls st M) (c : Int32) (i : Int32) (M : zM) (h : (kd 9 = 8) ∧ ∃ s : St, (RpM M s) ∧ ∀ v : Int32, (v.toInt = (ev_is s c.toInt i.toInt).1) → ∀ M' : zM, (RpM M' (ev_is s c.toInt i.toInt).2) → (fr0 M M') → K (some (zI v)) M') : X 0 [some (zR 9 0), some (zI (c)), some (zI (i))] [] M := by
  obtain ⟨hk, s, hR, hK⟩ := h
  refine vc_X8_is_0 hX hk ⟨_, hR.1.1, fun v1 h1 => ⟨fun q f2 hf2 M2 e2 => ?_, fun q v4 h4 M4 e4 => ?_⟩⟩
  · rw [h1, zp_n] at q
    obtain ⟨l, hl⟩ := Option.isSome_iff_exists.mp q
    have hs := hR.sc (by decide) e2
    refine ⟨s, hs.1, by rw [e2, zmw_at]; exact hR.1.1.congr hf2, l, hl, fun v3 h3 => ?_⟩
    have hev : ev_is s c.toInt i.toInt = (seFit s.1.2.2 l (sk_at s.1.1 c.toInt (i.toInt + 1)) c.toInt i.toInt, s) := by unfold ev_is; rw [hl]
    rw [hev] at hK
    exact hK v3 h3 M2 hs.1 hs.2
  · rw [h1, zp_0] at q
    have hn : sk_at s.1.1 c.toInt i.toInt = none := by simpa using q
    exact mrf hR hK 0 (-2) (by decide) (by rw [h4]; rfl) (by unfold ev_is; rw [hn]) e4
theorem ms_X8_is : zMS 7 yX8_is cX8_is 3 (some .int) sp_X8_is := by
  intro d hd
  obtain ⟨d', rfl⟩ : ∃ d', d = d' + 7 := ⟨d - 7, by omega⟩
  refine zmethod (tab := tb_X8_is) (cut := []) (by decide) (tk_X8_is d' ms_X8_isLayer ms_X8_bad ms_X8_layHand ms_X8_kindsOf) ?_
  intro kd as M K h
  unfold sp_X8_is at h
  split at h
  · rename_i c i
    exact ⟨Nat.le_of_ble_eq_true rfl, fun X hX => mt_X8_is hX c i M h⟩
  · exact h.elim

theorem z_b1 : ∀ n, n < 64 → ((nI n &&& (1 : Int32)).toInt = ((n % 2 : Nat) : Int) ∧ (nI n >>> ((1 : Int32) &&& 31)) = nI (n / 2) ∧ pc6 n = ((n % 2 : Nat) : Int) + pc6 ((n / 2 : Nat) : Int)) := by decide +kernel
set_option maxRecDepth 20000 in
theorem mt_X8_bits {kd : Nat → Nat} {K : zK} {X : zX} (hX : ∀ (n pc : Nat) (ls : zLS) (st : List zV) (M : zM), zrun (tb_X8_bits kd K) [(4, [])] n X pc ls st M → X pc ls st M) (x : Int32) (M : zM) (h : (0 ≤ x.toInt ∧ x.toInt < 64) ∧ ∀ v : Int32, (v.toInt = pc6 x.toInt) → K (some (zI v)) M) : X 0 [some (zI (x)), none, none] [] M := by
  obtain ⟨hx, hK⟩ := h
  have bx := pc6_b x.toInt
  obtain ⟨xn, hxn⟩ : ∃ xn : Nat, x.toInt = xn := ⟨x.toInt.toNat, by omega⟩
  have p0 : pc6 ((0 : Nat) : Int) = 0 := by decide
  have key : ∀ f m : Nat, m < 2 ^ f → m < 64 → ∀ n p : Int32, p.toInt = m → n.toInt + pc6 m = pc6 x.toInt → X 4 [some (zI x), some (zI n), some (zI p)] [] M := by
    intro f
    induction f with
    | zero =>
      intro m h1 h64 n p hp hn
      have hm : m = 0 := by simpa using h1
      subst hm
      refine vc_X8_bits_4 hX ⟨fun _ => hK _ (by rw [p0] at hn; omega), fun q => ?_⟩
      simp only [Int32.lt_iff_toInt_lt, Int32.le_iff_toInt_le, ← Int32.toInt_inj, Int32.toInt_add, Int32.toInt_sub, Int32.toInt_mul, Int32.toInt_neg, Int.bmod, Int32.reduceToInt] at q; omega
    | succ f ih =>
      intro m h1 h64 n p hp hn
      refine vc_X8_bits_4 hX ⟨fun q => hK _ ?_, fun q => ?_⟩
      · simp only [Int32.lt_iff_toInt_lt, Int32.le_iff_toInt_le, ← Int32.toInt_inj, Int32.toInt_add, Int32.toInt_sub, Int32.toInt_mul, Int32.toInt_neg, Int.bmod, Int32.reduceToInt] at q
        have hm : m = 0 := by omega
        subst hm
        rw [p0] at hn; omega
      · obtain ⟨z1, z2, z3⟩ := z_b1 m h64
        have b1 := pc6_b (m : Int)
        have b2 := pc6_b ((m / 2 : Nat) : Int)
        rw [z_nI hp]
        refine ih (m / 2) (by rw [Nat.pow_succ] at h1; omega) (by omega) _ _ (by rw [z2]; exact nI_toInt (by omega)) ?_
        rw [z_add (by omega) (by omega), z1]
        omega
  exact vc_X8_bits_0 hX (key 6 xn (by rw [show 2 ^ 6 = 64 from rfl]; omega) (by omega) 0 x hxn (by rw [← hxn]; show (0 : Int) + _ = _; omega))
theorem ms_X8_bits : zMS 1 yX8_bits cX8_bits 3 (some .int) sp_X8_bits := by
  intro d hd
  obtain ⟨d', rfl⟩ : ∃ d', d = d' + 1 := ⟨d - 1, by omega⟩
  refine zmethod (tab := tb_X8_bits) (cut := [(4, [])]) (by decide) (tk_X8_bits d' ) ?_
  intro kd as M K h
  unfold sp_X8_bits at h
  split at h
  · rename_i x
    exact ⟨Nat.le_of_ble_eq_true rfl, fun X hX => mt_X8_bits hX x M h⟩
  · exact h.elim

def argJ (gr : Int → Int) (lo : Int) (j : Nat) (e b : Int) : Prop := (j = 0 ∧ e = 1000000 ∧ b = -1) ∨ (0 < j ∧ isArg gr lo (lo + j - 1) b ∧ e = gr b)
theorem argJ_s {gr : Int → Int} {lo : Int} {j : Nat} {e b : Int} (hg : ∀ y, gr y ≤ 6) (h : argJ gr lo j e b) : (e ≤ gr (lo + j) → argJ gr lo (j + 1) e b) ∧ (¬ e ≤ gr (lo + j) → argJ gr lo (j + 1) (gr (lo + j)) (lo + j)) := by
  rcases h with ⟨rfl, rfl, rfl⟩ | ⟨h1, ⟨h2, h3, h4⟩, h5⟩
  · have := hg (lo + (0 : Nat))
    refine ⟨fun q => by omega, fun _ => Or.inr ⟨by omega, ⟨by omega, fun y y1 y2 => ?_, fun y y1 y2 => by omega⟩, rfl⟩⟩
    rw [show y = lo + (0 : Nat) by omega]
    exact Int.le_refl _
  · refine ⟨fun q => Or.inr ⟨by omega, ⟨by omega, fun y y1 y2 => ?_, h4⟩, h5⟩, fun q => Or.inr ⟨by omega, ⟨by omega, fun y y1 y2 => ?_, fun y y1 y2 => ?_⟩, rfl⟩⟩
    · by_cases hy : y = lo + j
      · subst hy; omega
      · exact h3 y y1 (by omega)
    · by_cases hy : y = lo + j
      · subst hy; exact Int.le_refl _
      · have := h3 y y1 (by omega); omega
    · have := h3 y y1 (by omega); omega
set_option maxRecDepth 20000 in
theorem mt_X8_look {kd : Nat → Nat} {K : zK} {X : zX} (hX : ∀ (n pc : Nat) (ls : zLS) (st : List zV) (M : zM), zrun (tb_X8_look kd K) [(43, [7, 8]), (76, [])] n X pc ls st M → X pc ls st M) (c : Int32) (i : Int32) (M : zM) (h : (kd 9 = 8) ∧ ∃ s : St, (RpM M s) ∧ ∀ v : Int32, (er_look s c.toInt i.toInt v.toInt) → ∀ M' : zM, (RpM M' (es_ends s c.toInt i.toInt)) → (fr0 M M') → K (some (zI v)) M') : X 0 [some (zR 9 0), some (zI (c)), some (zI (i)), none, none, none, none, none, none] [] M := by
  obtain ⟨hk, s, hR, hK⟩ := h
  have z126 : zin (kd 9) 1 0 (126 : Int32) := zin_of (n := 915) (by rw [hk]; rfl) (by decide) (by decide)
  refine vc_X8_look_0 hX hk ⟨_, hR.1.1, fun v1 h1 => ⟨fun q f2 hf2 M2 e2 => ?_, fun q v4 h4 M4 e4 => ?_⟩⟩
  · rw [h1, zp_n] at q
    obtain ⟨l, hl⟩ := Option.isSome_iff_exists.mp q
    have hs := hR.sc (by decide) e2
    have ha : RpF (M2.1 9 5) s.1.1 := by rw [e2, zmw_at]; exact hR.1.1.congr hf2
    have hes : es_ends s c.toInt i.toInt = s := by unfold es_ends; rw [if_pos q]
    rw [hes] at hK
    refine ⟨s, hs.1, ha, l, hl, fun n hn => ⟨z126, ?_⟩⟩
    have hy2 : (M2.1 9 1 126).toInt = s.1.1.2 := hs.1.1.1.2.2
    have hyr := hR.1.1.1.1
    have hF := zsm_bit (p := fun k => s.1.2.2.all (seOk k l (sk_at s.1.1 c.toInt (i.toInt + 1)) c.toInt i.toInt)) 6
    rw [show (2 : Int) ^ 6 = 64 by decide] at hF
    have hn64 : 0 ≤ n.toInt ∧ n.toInt < 64 := by rw [hn]; exact hF
    have hE : ∀ b : Int32, (if n.toInt = 0 then b.toInt = -1 else isArg (sk_lk s.1.1 n.toInt c.toInt i.toInt) s.1.1.2 (hi99 s.1.1.2) b.toInt) → K (some (zI b)) M2 := fun b hb => hK b (by unfold er_look; rw [hl]; simp only; rw [← hn]; exact hb) M2 hs.1 hs.2
    rw [n126]
    by_cases hn0 : n.toInt = 0
    · have fin : K (some (zI (-1))) M2 := hE _ (by rw [if_pos hn0]; rfl)
      refine vc_X8_look_43 hX hk ⟨z126, fun _ => fin, fun _ => ⟨fun _ => fin, fun _ => ⟨fun _ => fin, fun q => ?_⟩⟩⟩
      simp only [Int32.lt_iff_toInt_lt, Int32.le_iff_toInt_le, ← Int32.toInt_inj, Int32.toInt_add, Int32.toInt_sub, Int32.toInt_mul, Int32.toInt_neg, Int.bmod, Int32.reduceToInt] at q; omega
    · have e100 : ((M2.1 9 1 126) + (100 : Int32)).toInt = s.1.1.2 + 100 := by simp only [Int32.lt_iff_toInt_lt, Int32.le_iff_toInt_le, ← Int32.toInt_inj, Int32.toInt_add, Int32.toInt_sub, Int32.toInt_mul, Int32.toInt_neg, Int.bmod, Int32.reduceToInt]; omega
      obtain ⟨nn, hnn⟩ : ∃ nn : Nat, n.toInt = nn := ⟨n.toInt.toNat, by omega⟩
      have hgr : ∀ y, sk_lk s.1.1 n.toInt c.toInt i.toInt y = grt6 n.toInt (fun k => bnd k l (sk_at s.1.1 c.toInt (i.toInt + 1)) y) := fun y => by unfold sk_lk; rw [hl]
      have hg6 : ∀ y, sk_lk s.1.1 n.toInt c.toInt i.toInt y ≤ 6 := fun y => (grt6_b _ _).2
      have hpc := pc6_b n.toInt
      obtain ⟨N, hN⟩ : ∃ N : Nat, (N : Int) = hi99 s.1.1.2 - s.1.1.2 + 1 := ⟨(hi99 s.1.1.2 - s.1.1.2 + 1).toNat, by unfold hi99; split <;> omega⟩
      have hNb : 0 < N ∧ (s.1.1.2 + N = s.1.1.2 + 100 ∨ s.1.1.2 + N = 1000) ∧ s.1.1.2 + N ≤ s.1.1.2 + 100 ∧ s.1.1.2 + N ≤ 1000 := by unfold hi99 at hN; split at hN <;> omega
      refine up (N := N) (Q := fun j => ∀ b e y : Int32, y.toInt = s.1.1.2 + j → argJ (sk_lk s.1.1 n.toInt c.toInt i.toInt) s.1.1.2 j e.toInt b.toInt → X 43 [some (zR 9 0), some (zI c), some (zI i), some (zI n), some (zI b), some (zI e), some (zI y), none, none] [] M2) (fun b e y hy hI => ?_) (fun j hj ih b e y hy hI => ?_) 0 (by omega) (-1) 1000000 (M2.1 9 1 126) (by rw [hy2]; simp) (Or.inl ⟨rfl, rfl, rfl⟩)
      · have fin : K (some (zI b)) M2 := hE _ (by
          rw [if_neg hn0]
          rcases hI with ⟨h, -⟩ | ⟨-, h, -⟩
          · omega
          · rw [show hi99 s.1.1.2 = s.1.1.2 + N - 1 by omega]; exact h)
        refine vc_X8_look_43 hX hk ?_
        rw [n126]
        refine ⟨z126, fun _ => fin, fun q1 => ⟨fun _ => fin, fun q2 => ?_⟩⟩
        rw [Int32.le_iff_toInt_le, e100] at q1
        simp only [Int32.lt_iff_toInt_lt, Int32.le_iff_toInt_le, ← Int32.toInt_inj, Int32.toInt_add, Int32.toInt_sub, Int32.toInt_mul, Int32.toInt_neg, Int.bmod, Int32.reduceToInt] at q2
        omega
      · refine vc_X8_look_43 hX hk ?_
        rw [n126]
        refine ⟨z126, fun q1 => ?_, fun q1 => ⟨fun q2 => ?_, fun q2 => ⟨fun q3 => ?_, fun q3 => ?_⟩⟩⟩
        · rw [Int32.le_iff_toInt_le, e100] at q1; omega
        · simp only [Int32.lt_iff_toInt_lt, Int32.le_iff_toInt_le, ← Int32.toInt_inj, Int32.toInt_add, Int32.toInt_sub, Int32.toInt_mul, Int32.toInt_neg, Int.bmod, Int32.reduceToInt] at q2; omega
        · simp only [Int32.lt_iff_toInt_lt, Int32.le_iff_toInt_le, ← Int32.toInt_inj, Int32.toInt_add, Int32.toInt_sub, Int32.toInt_mul, Int32.toInt_neg, Int.bmod, Int32.reduceToInt] at q3; omega
        · refine up (N := 6) (Q := fun k => ∀ w kk : Int32, kk.toInt = k → w.toInt = zsm (fun k => b2i (bit6 n.toInt k && bnd k l (sk_at s.1.1 c.toInt (i.toInt + 1)) y.toInt)) k → X 76 [some (zR 9 0), some (zI c), some (zI i), some (zI n), some (zI b), some (zI e), some (zI y), some (zI w), some (zI kk)] [] M2) (fun w kk hkk hw => ?_) (fun k hk6 ih2 w kk hkk hw => ?_) 0 (by omega) 0 0 rfl rfl
          · have hw' : w.toInt = yes6 n.toInt (fun k => bnd k l (sk_at s.1.1 c.toInt (i.toInt + 1)) y.toInt) := hw
            have hyb := yes6_b n.toInt (fun k => bnd k l (sk_at s.1.1 c.toInt (i.toInt + 1)) y.toInt)
            obtain ⟨s1, s2⟩ := argJ_s hg6 hI
            have ey : (y + 1).toInt = s.1.1.2 + ((j + 1 : Nat) : Int) := by simp only [Int32.lt_iff_toInt_lt, Int32.le_iff_toInt_le, ← Int32.toInt_inj, Int32.toInt_add, Int32.toInt_sub, Int32.toInt_mul, Int32.toInt_neg, Int.bmod, Int32.reduceToInt]; omega
            have e2w : ((2 : Int32) * w).toInt = 2 * w.toInt := by simp only [Int32.lt_iff_toInt_lt, Int32.le_iff_toInt_le, ← Int32.toInt_inj, Int32.toInt_add, Int32.toInt_sub, Int32.toInt_mul, Int32.toInt_neg, Int.bmod, Int32.reduceToInt]; omega
            have nx : ∀ gr : Int32, gr.toInt = sk_lk s.1.1 n.toInt c.toInt i.toInt (s.1.1.2 + j) → (e ≤ gr → X 43 [some (zR 9 0), some (zI c), some (zI i), some (zI n), some (zI b), some (zI e), some (zI (y + 1)), none, none] [] M2) ∧ (¬ e ≤ gr → X 43 [some (zR 9 0), some (zI c), some (zI i), some (zI n), some (zI y), some (zI gr), some (zI (y + 1)), none, none] [] M2) := fun gr hgr' => ⟨fun q => ih b e (y + 1) ey (s1 (by rw [Int32.le_iff_toInt_le, hgr'] at q; exact q)), fun q => ih y gr (y + 1) ey (by rw [Int32.le_iff_toInt_le, hgr'] at q; rw [hgr', hy]; exact s2 q)⟩
            refine vc_X8_look_76 hX hk ⟨fun _ => ⟨hn64, fun v1 hv1 => ⟨fun q4 => ⟨hn64, fun v2 hv2 => ?_⟩, fun q4 => ?_⟩⟩, fun q => ?_⟩
            · rw [Int32.le_iff_toInt_le, e2w, hv1] at q4
              have ev : (v2 - w).toInt = sk_lk s.1.1 n.toInt c.toInt i.toInt (s.1.1.2 + j) := by
                rw [hgr, ← hy]
                unfold grt6
                rw [if_neg (by omega), ← hw', ← hv2]
                simp only [Int32.lt_iff_toInt_lt, Int32.le_iff_toInt_le, ← Int32.toInt_inj, Int32.toInt_add, Int32.toInt_sub, Int32.toInt_mul, Int32.toInt_neg, Int.bmod, Int32.reduceToInt]; omega
              have := nx _ ev
              exact ⟨fun q5 => ⟨this.1, fun q6 => absurd q5 q6⟩, fun q5 => ⟨fun q6 => absurd q6 q5, this.2⟩⟩
            · rw [Int32.le_iff_toInt_le, e2w, hv1] at q4
              have ev : w.toInt = sk_lk s.1.1 n.toInt c.toInt i.toInt (s.1.1.2 + j) := by
                rw [hgr, ← hy]
                unfold grt6
                rw [if_pos (by omega), ← hw']
              have := nx _ ev
              exact ⟨fun q5 => ⟨this.1, fun q6 => absurd q5 q6⟩, fun q5 => ⟨fun q6 => absurd q6 q5, this.2⟩⟩
            · simp only [Int32.lt_iff_toInt_lt, Int32.le_iff_toInt_le, ← Int32.toInt_inj, Int32.toInt_add, Int32.toInt_sub, Int32.toInt_mul, Int32.toInt_neg, Int.bmod, Int32.reduceToInt] at q; omega
          · have bz := zsm_b (f := fun k => b2i (bit6 n.toInt k && bnd k l (sk_at s.1.1 c.toInt (i.toInt + 1)) y.toInt)) (fun k => b2i_b _) k
            have hbit : ((n >>> (kk &&& 31)) &&& (1 : Int32)) = (1 : Int32) ↔ bit6 n.toInt k = true := by
              rw [z_nI hnn, z_nI hkk, nI_toInt (by omega)]; exact z_bit6 k hk6 nn (by omega)
            refine vc_X8_look_76 hX hk ⟨fun q => ?_, fun _ => ⟨fun q => ih2 _ _ (z_inc hkk (by omega)) ?_, fun q => ⟨s.1.1, ha, l, hl, by omega, fun v1 hv1 => ⟨fun h1 => ih2 _ _ (z_inc hkk (by omega)) ?_, fun h1 => ih2 _ _ (z_inc hkk (by omega)) ?_⟩⟩⟩⟩
            · simp only [Int32.lt_iff_toInt_lt, Int32.le_iff_toInt_le, ← Int32.toInt_inj, Int32.toInt_add, Int32.toInt_sub, Int32.toInt_mul, Int32.toInt_neg, Int.bmod, Int32.reduceToInt] at q; omega
            · rw [hbit] at q
              rw [zsm_s, Int32.add_zero, hw]; simp [b2i, q]
            · rw [hv1, zp_0, hkk] at h1
              rw [zsm_s, Int32.add_zero, hw]; simp [b2i, h1]
            · rw [hv1, zp_n, hkk] at h1
              rw [hbit] at q
              rw [zsm_s, show b2i (bit6 n.toInt k && bnd k l (sk_at s.1.1 c.toInt (i.toInt + 1)) y.toInt) = 1 by simp [b2i, h1, q]]
              simp only [Int32.lt_iff_toInt_lt, Int32.le_iff_toInt_le, ← Int32.toInt_inj, Int32.toInt_add, Int32.toInt_sub, Int32.toInt_mul, Int32.toInt_neg, Int.bmod, Int32.reduceToInt]; omega
  · rw [h1, zp_0] at q
    have hes : es_ends s c.toInt i.toInt = sRf s 0 := by unfold es_ends; rw [if_neg q]
    rw [hes] at hK
    have hn : sk_at s.1.1 c.toInt i.toInt = none := by simpa using q
    have := hR.rf e4 (by decide)
    exact hK _ (by unfold er_look; rw [hn, h4]; rfl) M4 this.1 this.2
theorem ms_X8_look : zMS 7 yX8_look cX8_look 9 (some .int) sp_X8_look := by
  intro d hd
  obtain ⟨d', rfl⟩ : ∃ d', d = d' + 7 := ⟨d - 7, by omega⟩
  refine zmethod (tab := tb_X8_look) (cut := [(43, [7, 8]), (76, [])]) (by decide) (tk_X8_look d' ms_X8_isLayer ms_X8_bad ms_X8_layHand ms_X8_kindsOf ms_X8_bindsAs ms_X8_bits) ?_
  intro kd as M K h
  unfold sp_X8_look at h
  split at h
  · rename_i c i
    exact ⟨Nat.le_of_ble_eq_true rfl, fun X hX => mt_X8_look hX c i M h⟩
  · exact h.elim

