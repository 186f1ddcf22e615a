theorem sk_at_cg {a b : Sk} {c i : Int} (h : a.1 c.toNat = b.1 c.toNat) : sk_at a c i = sk_at b c i := by unfold sk_at; rw [h]
theorem sk_n_cg {a b : Sk} {c th le y : Int} (h : a.1 c.toNat = b.1 c.toNat) : sk_n a c th le y = sk_n b c th le y := by
  unfold sk_n
  refine zsm_c (fun k _ => ?_)
  unfold sk_q
  rw [sk_at_cg h, sk_at_cg h]
theorem sk_lawC_cg {a b : Sk} {c th y : Int} (h : a.1 c.toNat = b.1 c.toNat) : sk_lawC a c th y = sk_lawC b c th y := by
  unfold sk_lawC
  rw [sk_n_cg h, sk_n_cg h]
/-- the cell of a stroke -/
def celW (w : Int) : Int := if w < 10 then w else w - 10
theorem sk_rub_ne {a : Sk} {c : Int} {c' : Nat} (h : c' ≠ c.toNat) : (sk_rub a c).1 c' = a.1 c' := by
  unfold sk_rub
  cases sk_top a c with
  | none => rfl
  | some l => simp [sk_upd, h]
theorem sk_wr_ne {a : Sk} {c k th le : Int} {c' : Nat} (h : c' ≠ c.toNat) : (sk_wr a c k th le).1 c' = a.1 c' := by
  unfold sk_wr
  split
  · simp [sk_upd, h]
  · rfl
theorem sk_do_ne {a : Sk} {w th le : Int} {c' : Nat} (h : c' ≠ (celW w).toNat) : (sk_do a w th le).1 c' = a.1 c' := by
  unfold sk_do
  unfold celW at h
  split
  · rename_i hw; rw [if_pos hw] at h; exact sk_rub_ne h
  · rename_i hw; rw [if_neg hw] at h; exact sk_wr_ne h
theorem sk_may_c {a : Sk} {w : Int} (h : sk_may a w = true) : 0 ≤ celW w ∧ celW w < 6 := by
  unfold sk_may at h
  unfold celW
  split at h
  · rename_i hw
    rw [if_pos hw]
    obtain ⟨l, hl, -⟩ := sk_canR_iff.mp h
    have := sk_top_get hl
    exact ⟨this.1, this.2.1⟩
  · rename_i hw
    rw [if_neg hw]
    exact (sk_canW_iff.mp h).1
theorem sk_do_ok {a : Sk} (ha : okSk a) {w th le : Int} (h : sk_may a w = true) (ht : 0 ≤ th ∧ th ≤ 4) (he : le = 0 ∨ le = 1) : okSk (sk_do a w th le) := by
  unfold sk_may at h
  unfold sk_do
  split at h
  · rename_i hw
    rw [if_pos hw]
    obtain ⟨l, hl, -⟩ := sk_canR_iff.mp h
    exact sk_rub_ok ha hl
  · rename_i hw
    rw [if_neg hw]
    obtain ⟨h1, h2, h3⟩ := sk_canW_iff.mp h
    exact sk_wr_ok ha h1.1 h1.2 h2 (by decide) ht he
theorem sk_do_aft {a : Sk} {w th le : Int} (h : sk_may a w = true) : sk_aft a w (sk_do a w th le) := by
  unfold sk_may at h
  unfold sk_do sk_aft
  split at h
  · rename_i hw
    rw [if_pos hw, if_pos hw]
    exact ⟨h, rfl⟩
  · rename_i hw
    rw [if_neg hw, if_neg hw]
    obtain ⟨h1, h2, h3⟩ := sk_canW_iff.mp h
    exact ⟨h1, h3, _, _, _, rfl⟩
theorem tr_do_ok {a : Sk} (ha : okSk a) {w th le : Int} (h : tr_may a w = true) (ht : 0 ≤ th ∧ th ≤ 4) (he : le = 0 ∨ le = 1) : okSk (tr_do a w th le) := by
  unfold tr_do
  split
  · exact ha
  · rename_i hw
    exact sk_do_ok ha (by simpa [tr_may, hw] using h) ht he
theorem tr_do_aft {a : Sk} {w th le : Int} (h : tr_may a w = true) : tr_aft a w (tr_do a w th le) := by
  unfold tr_do tr_aft
  split
  · rfl
  · rename_i hw
    exact sk_do_aft (by simpa [tr_may, hw] using h)
theorem sk_aft_ne {a b : Sk} {w : Int} (h : sk_aft b w a) {c' : Nat} (hc : c' ≠ (celW w).toNat) : a.1 c' = b.1 c' := by
  unfold sk_aft at h
  unfold celW at hc
  split at h
  · rename_i hw; rw [if_pos hw] at hc; rw [h.2]; exact sk_rub_ne hc
  · rename_i hw
    rw [if_neg hw] at hc
    obtain ⟨-, -, k, th, le, rfl⟩ := h
    exact sk_wr_ne hc
theorem trF.rf {M : zM} {t : Nat} : trF M t M := ⟨fun _ _ _ => rfl, rfl⟩
theorem trF.tr {M N P : zM} {t : Nat} (h : trF M t N) (h' : trF N t P) : trF M t P := ⟨fun u h1 h2 => (h'.1 u h1 h2).trans (h.1 u h1 h2), h'.2.trans h.2⟩
theorem trF.bs {M : zM} {t : Nat} {S : zB} : trF M t (zbs M t S) := ⟨fun _ h1 _ => zbs_ne h1, rfl⟩
theorem trF.bs1 {M : zM} {t : Nat} {S : zB} : trF M t (zbs M (t + 1) S) := ⟨fun _ _ h2 => zbs_ne h2, rfl⟩
set_option maxRecDepth 20000 in
theorem mt_X6_begin {kd : Nat → Nat} {K : zK} {X : zX} (hX : ∀ (n pc : Nat) (ls : zLS) (st : List zV) (M : zM), zrun (tb_X6_begin kd K) [(21, [1, 2, 3])] n X pc ls st M → X pc ls st M) (t : Nat) (u : Nat) (p : Int32) (q : Int32) (M : zM) (h : (kd t = 6) ∧ (kd (t + 1) = 3) ∧ (kd u = 3) ∧ (¬ t = u) ∧ (¬ t + 1 = u) ∧ ∃ a : Sk, (RpS (M.1 u) a) ∧ (0 ≤ p.toInt ∧ p.toInt ≤ 4) ∧ (0 ≤ q.toInt ∧ q.toInt < 1000000) ∧ ∀ M' : zM, (trF M t M') → (RpR M' t a p.toInt q.toInt) → K none M') : X 0 [some (zR t 0), some (zR u 0), some (zI (p)), some (zI (q)), none] [] M := by
  obtain ⟨hk, hk1, hu, hn1, hn2, a, ha, hp, hq, hK⟩ := h
  refine vc_X6_begin_0 hX hk hu hk1 ⟨hn2, a, ha, fun S1 h1 M1 e1 M2 e2 M3 e3 => ?_⟩
  rw [zmw_bs] at e2 e3
  have g1 : M3.1 (t + 1) = S1 := by rw [e3, zbs_ne (by omega), e2, zbs_ne (by omega), e1, zbs_at]
  have g2 : M3.1 t 0 2 = p := by rw [e3, zbs_at, zrw_at, e2, zbs_at, zrw_at]; simp [upd]
  have g3 : M3.1 t 0 3 = q := by rw [e3, zbs_at, zrw_at]; simp [upd]
  have g4 : trF M t M3 := by
    rw [e3, e2, e1]
    exact (trF.bs1.tr trF.bs).tr trF.bs
  refine up (N := 6) (Q := fun cn => ∀ (c : Int32) (N : zM), c.toInt = cn → trF M t N → N.1 (t + 1) = S1 → N.1 t 0 2 = p → N.1 t 0 3 = q → (∀ c' : Nat, c' < cn → (N.1 t 1 c').toInt = sk_lawC a c' p.toInt q.toInt) → X 21 [some (zR t 0), none, none, none, some (zI c)] [] N) (fun c N hc f1 f2 f3 f4 f5 => ?_) (fun cn hcn ih c N hc f1 f2 f3 f4 f5 => ?_) 0 (by omega) 0 M3 rfl g4 g1 g2 g3 (fun c' h => by omega)
  · refine vc_X6_begin_21 hX hk1 hk ⟨fun _ => hK N f1 ⟨by rw [f2]; exact h1, hp, hq, by rw [f3], by rw [f4], f5⟩, fun q => ?_⟩
    simp only [Int32.lt_iff_toInt_lt, Int32.le_iff_toInt_le, ← Int32.toInt_inj, Int32.toInt_add, Int32.toInt_sub, Int32.toInt_mul, Int32.toInt_neg, Int.bmod, Int32.reduceToInt] at q; omega
  · refine vc_X6_begin_21 hX hk1 hk ⟨fun q => ?_, fun _ => ⟨a, by rw [f2]; exact h1, by omega, by rw [f4]; exact hq, fun v1 hv1 => ⟨zin_of (n := 6) (by rw [hk]; rfl) (by omega) (by omega), fun M2' e2' => ?_⟩⟩⟩
    · simp only [Int32.lt_iff_toInt_lt, Int32.le_iff_toInt_le, ← Int32.toInt_inj, Int32.toInt_add, Int32.toInt_sub, Int32.toInt_mul, Int32.toInt_neg, Int.bmod, Int32.reduceToInt] at q; omega
    · rw [f3, f4, hc] at hv1
      rw [zmw_bs, z_cl, hc, Int.toNat_natCast] at e2'
      refine ih (c + 1) M2' (z_inc hc (by omega)) (f1.tr (by rw [e2']; exact trF.bs)) (by rw [e2', zbs_ne (by omega)]; exact f2) (by rw [e2', zbs_at, zrw_ne (by omega)]; exact f3) (by rw [e2', zbs_at, zrw_ne (by omega)]; exact f4) (fun c' hc' => ?_)
      rw [e2', zbs_at, zrw_at]
      by_cases he : c' = cn
      · subst he; simp [upd, hv1]
      · simp [upd, he]; exact f5 c' (by omega)
theorem ms_X6_begin : zMS 5 yX6_begin cX6_begin 5 none sp_X6_begin := by
  intro d hd
  obtain ⟨d', rfl⟩ : ∃ d', d = d' + 5 := ⟨d - 5, by omega⟩
  refine zmethod (tab := tb_X6_begin) (cut := [(21, [1, 2, 3])]) (by decide) (tk_X6_begin d' ms_X3_take ms_X3_lawOfCell) ?_
  intro kd as M K h
  unfold sp_X6_begin at h
  split at h
  · rename_i t u p q
    exact ⟨Nat.le_of_ble_eq_true rfl, fun X hX => mt_X6_begin hX t u p q M h⟩
  · exact h.elim

set_option maxRecDepth 20000 in
theorem mt_X6_law {kd : Nat → Nat} {K : zK} {X : zX} (hX : ∀ (n pc : Nat) (ls : zLS) (st : List zV) (M : zM), zrun (tb_X6_law kd K) [(4, [])] n X pc ls st M → X pc ls st M) (t : Nat) (M : zM) (h : (kd t = 6) ∧ (kd (t + 1) = 3) ∧ ∃ a : Sk, ∃ g : Int, ∃ y : Int, (RpR M t a g y) ∧ ∀ v : Int32, (v.toInt = sk_law a g y) → K (some (zI v)) M) : X 0 [some (zR t 0), none, none] [] M := by
  obtain ⟨hk, hk1, a, g, y, ⟨ha, hg, hy, -, -, hl⟩, hK⟩ := h
  have nn : ∀ e : Int, ∀ k : Nat, 0 ≤ zsm (fun j => sk_n a j g e y) k := fun e k => by
    have := zsm_b (f := fun j => sk_n a j g e y) (fun k => sk_n_b _ _ _ _ _) k
    omega
  refine vc_X6_law_0 hX (up (N := 6) (Q := fun k => ∀ w c : Int32, c.toInt = k → w.toInt = lw2 (zsm (fun j => sk_n a j g 1 y) k) (zsm (fun j => sk_n a j g 0 y) k) → X 4 [some (zR t 0), some (zI w), some (zI c)] [] M) (fun w c hc hw => ?_) (fun k hk4 ih w c hc hw => ?_) 0 (by omega) 0 0 rfl rfl)
  · refine vc_X6_law_4 hX hk ⟨fun _ => hK _ hw, fun q => ?_⟩
    simp only [Int32.lt_iff_toInt_lt, Int32.le_iff_toInt_le, ← Int32.toInt_inj, Int32.toInt_add, Int32.toInt_sub, Int32.toInt_mul, Int32.toInt_neg, Int.bmod, Int32.reduceToInt] at q; omega
  · refine vc_X6_law_4 hX hk ⟨fun q => ?_, fun _ => ⟨zin_of (n := 6) (by rw [hk]; rfl) (by omega) (by omega), ih _ _ (z_inc hc (by omega)) ?_⟩⟩
    · simp only [Int32.lt_iff_toInt_lt, Int32.le_iff_toInt_le, ← Int32.toInt_inj, Int32.toInt_add, Int32.toInt_sub, Int32.toInt_mul, Int32.toInt_neg, Int.bmod, Int32.reduceToInt] at q; omega
    · rw [zsm_s, zsm_s, z_cl, hc, Int.toNat_natCast]
      exact z_or_lw hw (hl k hk4) (nn 1 k) (nn 0 k) (sk_n_b _ _ _ _ _).1 (sk_n_b _ _ _ _ _).1
theorem ms_X6_law : zMS 1 yX6_law cX6_law 3 (some .int) sp_X6_law := by
  intro d hd
  obtain ⟨d', rfl⟩ : ∃ d', d = d' + 1 := ⟨d - 1, by omega⟩
  refine zmethod (tab := tb_X6_law) (cut := [(4, [])]) (by decide) (tk_X6_law d' ) ?_
  intro kd as M K h
  unfold sp_X6_law at h
  split at h
  · rename_i t
    exact ⟨Nat.le_of_ble_eq_true rfl, fun X hX => mt_X6_law hX t M h⟩
  · exact h.elim

set_option maxRecDepth 20000 in
theorem mt_X6_canDo {kd : Nat → Nat} {K : zK} {X : zX} (hX : ∀ (n pc : Nat) (ls : zLS) (st : List zV) (M : zM), zrun (tb_X6_canDo kd K) [] n X pc ls st M → X pc ls st M) (t : Nat) (w : Int32) (M : zM) (h : (kd t = 6) ∧ (kd (t + 1) = 3) ∧ ∃ a : Sk, ∃ g : Int, ∃ y : Int, (RpR M t a g y) ∧ (0 ≤ w.toInt ∧ w.toInt ≤ 20) ∧ ∀ v : Int32, (v = zp (tr_may a w.toInt = true)) → K (some (zI v)) M) : X 0 [some (zR t 0), some (zI (w))] [] M := by
  obtain ⟨hk, hk1, a, g, y, ⟨ha, -⟩, hw, hK⟩ := h
  refine vc_X6_canDo_0 hX hk1 hk ⟨fun e => hK _ (zp_t ?_).symm, fun e => ⟨a, ha, ?_, fun v1 hv1 => ⟨fun h1 => hK _ (zp_f ?_).symm, fun h1 => hK _ (zp_t ?_).symm⟩⟩⟩
  · subst e; rfl
  · simp only [Int32.lt_iff_toInt_lt, Int32.le_iff_toInt_le, ← Int32.toInt_inj, Int32.toInt_add, Int32.toInt_sub, Int32.toInt_mul, Int32.toInt_neg, Int.bmod, Int32.reduceToInt] at e; omega
  · simp only [Int32.lt_iff_toInt_lt, Int32.le_iff_toInt_le, ← Int32.toInt_inj, Int32.toInt_add, Int32.toInt_sub, Int32.toInt_mul, Int32.toInt_neg, Int.bmod, Int32.reduceToInt] at e
    rw [hv1, zp_0] at h1
    simp [tr_may, e, h1]
  · rw [hv1, zp_n] at h1
    simp [tr_may, h1]
theorem ms_X6_canDo : zMS 5 yX6_canDo cX6_canDo 2 (some .boolean) sp_X6_canDo := by
  intro d hd
  obtain ⟨d', rfl⟩ : ∃ d', d = d' + 5 := ⟨d - 5, by omega⟩
  refine zmethod (tab := tb_X6_canDo) (cut := []) (by decide) (tk_X6_canDo d' ms_X3_canDo) ?_
  intro kd as M K h
  unfold sp_X6_canDo at h
  split at h
  · rename_i t w
    exact ⟨Nat.le_of_ble_eq_true rfl, fun X hX => mt_X6_canDo hX t w M h⟩
  · exact h.elim

theorem celW_of {w v : Int32} (hw : 0 ≤ w.toInt ∧ w.toInt ≤ 20) (hv : v = if w < 10 then w else w - 10) : v.toInt = celW w.toInt := by
  rw [hv]
  unfold celW
  by_cases h : w < 10
  · rw [if_pos h, if_pos (by simp only [Int32.lt_iff_toInt_lt, Int32.le_iff_toInt_le, ← Int32.toInt_inj, Int32.toInt_add, Int32.toInt_sub, Int32.toInt_mul, Int32.toInt_neg, Int.bmod, Int32.reduceToInt] at h; exact h)]
  · rw [if_neg h, if_neg (by simp only [Int32.lt_iff_toInt_lt, Int32.le_iff_toInt_le, ← Int32.toInt_inj, Int32.toInt_add, Int32.toInt_sub, Int32.toInt_mul, Int32.toInt_neg, Int.bmod, Int32.reduceToInt] at h; exact h)]
    simp only [Int32.lt_iff_toInt_lt, Int32.le_iff_toInt_le, ← Int32.toInt_inj, Int32.toInt_add, Int32.toInt_sub, Int32.toInt_mul, Int32.toInt_neg, Int.bmod, Int32.reduceToInt] at h ⊢
    omega
set_option maxRecDepth 20000 in
theorem mt_X6_act {kd : Nat → Nat} {K : zK} {X : zX} (hX : ∀ (n pc : Nat) (ls : zLS) (st : List zV) (M : zM), zrun (tb_X6_act kd K) [] n X pc ls st M → X pc ls st M) (t : Nat) (w : Int32) (e : Int32) (M : zM) (h : (kd t = 6) ∧ (kd (t + 1) = 3) ∧ ∃ a : Sk, ∃ g : Int, ∃ y : Int, (RpR M t a g y) ∧ (0 ≤ w.toInt ∧ w.toInt ≤ 20) ∧ (tr_may a w.toInt = true) ∧ (e.toInt = 0 ∨ e.toInt = 1) ∧ ∀ M' : zM, (trF M t M') → (RpR M' t (tr_do a w.toInt g e.toInt) g y) → K none M') : X 0 [some (zR t 0), some (zI (w)), some (zI (e)), none] [] M := by
  obtain ⟨hk, hk1, a, g, y, ⟨ha, hg, hy, f2, f3, hl⟩, hw, hm, he, hK⟩ := h
  refine vc_X6_act_0 hX hk1 hk (fun v1 hv1 v2 hv2 => ?_)
  have hc := celW_of hw hv1
  by_cases h20 : w.toInt = 20
  · have hnc : ¬ (0 ≤ v1.toInt ∧ v1.toInt < 6) := by rw [hc, h20]; decide
    refine ⟨fun _ => hK M trF.rf ?_, fun q => absurd (by rw [hv2]; exact zp_f hnc) q⟩
    unfold tr_do
    rw [if_pos h20]
    exact ⟨ha, hg, hy, f2, f3, hl⟩
  · have hsm : sk_may a w.toInt = true := by simpa [tr_may, h20] using hm
    have hcc := sk_may_c hsm
    rw [← hc] at hcc
    refine ⟨fun q => absurd hcc (zp_0.mp (by rw [← hv2]; exact q)), fun _ => ⟨a, ha, by omega, hsm, by rw [f2]; exact hg, he, fun S3 h3 M3 e3 => ⟨sk_do a w.toInt g e.toInt, ?_, hcc, ?_, fun v4 hv4 => ⟨zin_of (n := 6) (by rw [hk]; rfl) hcc.1 hcc.2, fun M5 e5 => ?_⟩⟩⟩⟩
    · rw [e3, zbs_at, ← f2]; exact h3
    · rw [e3, zbs_ne (by omega), f3]; exact hy
    · rw [f2] at h3
      have t0 : M3.1 t = M.1 t := by rw [e3, zbs_ne (by omega)]
      rw [t0, f2, f3] at hv4
      rw [zmw_bs, t0] at e5
      obtain ⟨cn, hc1, hc2⟩ : ∃ cn : Nat, v1.toNatClampNeg = cn ∧ v1.toInt = cn := ⟨v1.toInt.toNat, rfl, by omega⟩
      rw [hc1] at e5
      rw [hc2] at hv4
      refine hK M5 (by rw [e5, e3]; exact trF.bs1.tr trF.bs) ?_
      unfold tr_do
      rw [if_neg h20]
      refine ⟨by rw [e5, zbs_ne (by omega), e3, zbs_at]; exact h3, hg, hy, by rw [e5, zbs_at, zrw_ne (by omega)]; exact f2, by rw [e5, zbs_at, zrw_ne (by omega)]; exact f3, fun c' hc' => ?_⟩
      rw [e5, zbs_at, zrw_at]
      by_cases hcn : c' = cn
      · subst hcn; simp [upd, hv4]
      · simp [upd, hcn]
        rw [hl c' hc']
        refine (sk_lawC_cg ?_).symm
        rw [Int.toNat_natCast]
        exact sk_do_ne (by rw [← hc, hc2]; simpa using hcn)
theorem ms_X6_act : zMS 5 yX6_act cX6_act 4 none sp_X6_act := by
  intro d hd
  obtain ⟨d', rfl⟩ : ∃ d', d = d' + 5 := ⟨d - 5, by omega⟩
  refine zmethod (tab := tb_X6_act) (cut := []) (by decide) (tk_X6_act d' ms_X7_cellOf ms_X7_isCell ms_X3_act ms_X3_lawOfCell) ?_
  intro kd as M K h
  unfold sp_X6_act at h
  split at h
  · rename_i t w e
    exact ⟨Nat.le_of_ble_eq_true rfl, fun X hX => mt_X6_act hX t w e M h⟩
  · exact h.elim

set_option maxRecDepth 20000 in
theorem mt_X6_takeBack {kd : Nat → Nat} {K : zK} {X : zX} (hX : ∀ (n pc : Nat) (ls : zLS) (st : List zV) (M : zM), zrun (tb_X6_takeBack kd K) [] n X pc ls st M → X pc ls st M) (t : Nat) (w : Int32) (M : zM) (h : (kd t = 6) ∧ (kd (t + 1) = 3) ∧ ∃ a : Sk, ∃ g : Int, ∃ y : Int, (RpR M t a g y) ∧ ∃ b : Sk, (okSk b) ∧ (0 ≤ w.toInt ∧ w.toInt ≤ 20) ∧ (tr_aft b w.toInt a) ∧ ∀ M' : zM, (trF M t M') → (RpR M' t (b) g y) → K none M') : X 0 [some (zR t 0), some (zI (w)), none] [] M := by
  obtain ⟨hk, hk1, a, g, y, ⟨ha, hg, hy, f2, f3, hl⟩, b, hb, hw, haf, hK⟩ := h
  refine vc_X6_takeBack_0 hX hk1 hk (fun v1 hv1 v2 hv2 => ?_)
  have hc := celW_of hw hv1
  unfold tr_aft at haf
  by_cases h20 : w.toInt = 20
  · rw [if_pos h20] at haf
    subst haf
    have hnc : ¬ (0 ≤ v1.toInt ∧ v1.toInt < 6) := by rw [hc, h20]; decide
    exact ⟨fun _ => hK M trF.rf ⟨ha, hg, hy, f2, f3, hl⟩, fun q => absurd (by rw [hv2]; exact zp_f hnc) q⟩
  · rw [if_neg h20] at haf
    have hcc : 0 ≤ v1.toInt ∧ v1.toInt < 6 := by
      rw [hc]
      have h9 := haf
      unfold sk_aft at h9
      unfold celW
      split at h9
      · rename_i hlt
        rw [if_pos hlt]
        obtain ⟨l, hl', -⟩ := sk_canR_iff.mp h9.1
        have := sk_top_get hl'
        exact ⟨this.1, this.2.1⟩
      · rename_i hlt
        rw [if_neg hlt]
        exact h9.1
    refine ⟨fun q => absurd hcc (zp_0.mp (by rw [← hv2]; exact q)), fun _ => ⟨a, ha, b, hb, by omega, haf, fun S3 h3 M3 e3 => ⟨b, by rw [e3, zbs_at]; exact h3, hcc, ?_, fun v4 hv4 => ⟨zin_of (n := 6) (by rw [hk]; rfl) hcc.1 hcc.2, fun M5 e5 => ?_⟩⟩⟩⟩
    · rw [e3, zbs_ne (by omega), f3]; exact hy
    · have t0 : M3.1 t = M.1 t := by rw [e3, zbs_ne (by omega)]
      rw [t0, f2, f3] at hv4
      rw [zmw_bs, t0] at e5
      obtain ⟨cn, hc1, hc2⟩ : ∃ cn : Nat, v1.toNatClampNeg = cn ∧ v1.toInt = cn := ⟨v1.toInt.toNat, rfl, by omega⟩
      rw [hc1] at e5
      rw [hc2] at hv4
      refine hK M5 (by rw [e5, e3]; exact trF.bs1.tr trF.bs) ⟨by rw [e5, zbs_ne (by omega), e3, zbs_at]; exact h3, hg, hy, by rw [e5, zbs_at, zrw_ne (by omega)]; exact f2, by rw [e5, zbs_at, zrw_ne (by omega)]; exact f3, fun c' hc' => ?_⟩
      rw [e5, zbs_at, zrw_at]
      by_cases hcn : c' = cn
      · subst hcn; simp [upd, hv4]
      · simp [upd, hcn]
        rw [hl c' hc']
        refine sk_lawC_cg ?_
        rw [Int.toNat_natCast]
        exact sk_aft_ne haf (by rw [← hc, hc2]; simpa using hcn)
theorem ms_X6_takeBack : zMS 5 yX6_takeBack cX6_takeBack 3 none sp_X6_takeBack := by
  intro d hd
  obtain ⟨d', rfl⟩ : ∃ d', d = d' + 5 := ⟨d - 5, by omega⟩
  refine zmethod (tab := tb_X6_takeBack) (cut := []) (by decide) (tk_X6_takeBack d' ms_X7_cellOf ms_X7_isCell ms_X3_takeBack ms_X3_lawOfCell) ?_
  intro kd as M K h
  unfold sp_X6_takeBack at h
  split at h
  · rename_i t w
    exact ⟨Nat.le_of_ble_eq_true rfl, fun X hX => mt_X6_takeBack hX t w M h⟩
  · exact h.elim

set_option maxRecDepth 20000 in
theorem mt_X6_worthOfLaw {kd : Nat → Nat} {K : zK} {X : zX} (hX : ∀ (n pc : Nat) (ls : zLS) (st : List zV) (M : zM), zrun (tb_X6_worthOfLaw kd K) [] n X pc ls st M → X pc ls st M) (t : Nat) (M : zM) (h : (kd t = 6) ∧ (kd (t + 1) = 3) ∧ ∃ a : Sk, ∃ g : Int, ∃ y : Int, (RpR M t a g y) ∧ ∀ v : Int32, (v.toInt = wlaw (sk_law a g y)) → K (some (zI v)) M) : X 0 [some (zR t 0)] [] M := by
  obtain ⟨hk, hk1, a, g, y, hR, hK⟩ := h
  refine vc_X6_worthOfLaw_0 hX hk1 hk ⟨a, g, y, hR, fun v1 hv1 => ⟨fun e => hK _ ?_, fun n1 => ⟨fun e => hK _ ?_, fun n2 => hK _ ?_⟩⟩⟩
  · rw [← hv1, e]; rfl
  · rw [← hv1, e]; rfl
  · rw [← hv1]
    simp only [Int32.lt_iff_toInt_lt, Int32.le_iff_toInt_le, ← Int32.toInt_inj, Int32.toInt_add, Int32.toInt_sub, Int32.toInt_mul, Int32.toInt_neg, Int.bmod, Int32.reduceToInt] at n1 n2
    unfold wlaw
    rw [if_neg n1, if_neg n2]
    rfl
theorem ms_X6_worthOfLaw : zMS 2 yX6_worthOfLaw cX6_worthOfLaw 1 (some .int) sp_X6_worthOfLaw := by
  intro d hd
  obtain ⟨d', rfl⟩ : ∃ d', d = d' + 2 := ⟨d - 2, by omega⟩
  refine zmethod (tab := tb_X6_worthOfLaw) (cut := []) (by decide) (tk_X6_worthOfLaw d' ms_X6_law) ?_
  intro kd as M K h
  unfold sp_X6_worthOfLaw at h
  split at h
  · rename_i t
    exact ⟨Nat.le_of_ble_eq_true rfl, fun X hX => mt_X6_worthOfLaw hX t M h⟩
  · exact h.elim

