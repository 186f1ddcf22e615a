/-! quarrels -/
theorem zsm_pos {f : Nat → Int} (hf : ∀ k, 0 ≤ f k) : ∀ {n : Nat}, 0 < zsm f n ↔ ∃ k, k < n ∧ 0 < f k
  | 0 => by simp [zsm]
  | n + 1 => by
    have ih := zsm_pos hf (n := n)
    have h0 : 0 ≤ zsm f n := by
      have : ∀ m, 0 ≤ zsm f m := by
        intro m
        induction m with
        | zero => simp [zsm]
        | succ m im => rw [zsm_s]; have := hf m; omega
      exact this n
    have hn := hf n
    rw [zsm_s]
    constructor
    · intro h
      by_cases h1 : 0 < zsm f n
      · obtain ⟨k, h2, h3⟩ := ih.mp h1
        exact ⟨k, by omega, h3⟩
      · exact ⟨n, by omega, by omega⟩
    · rintro ⟨k, h2, h3⟩
      by_cases h4 : k = n
      · subst h4; omega
      · have := ih.mpr ⟨k, by omega, h3⟩
        omega
theorem sk_N_pos {a : Sk} {th le y : Int} : 0 < sk_N a th le y ↔ ∃ c i : Nat, c < 6 ∧ i < 4 ∧ sk_q a c i th le y = true := by
  unfold sk_N
  rw [zsm_pos (fun k => (sk_n_b _ _ _ _ _).1)]
  constructor
  · rintro ⟨c, hc, h⟩
    unfold sk_n at h
    obtain ⟨i, hi, h2⟩ := (zsm_pos (fun k => (b2i_b _).1)).mp h
    refine ⟨c, i, hc, hi, ?_⟩
    cases hq : sk_q a c i th le y with
    | true => rfl
    | false => rw [hq] at h2; simp [b2i] at h2
  · rintro ⟨c, i, hc, hi, h⟩
    refine ⟨c, hc, ?_⟩
    unfold sk_n
    exact (zsm_pos (fun k => (b2i_b _).1)).mpr ⟨i, hi, by rw [h]; decide⟩
theorem sk_law3 {a : Sk} {th y : Int} : sk_law a th y = 3 ↔ 0 < sk_N a th 1 y ∧ 0 < sk_N a th 0 y := by
  unfold sk_law lw2
  split <;> split <;> omega
theorem sk_q_ex {a : Sk} {c i th le y : Int} (h : sk_q a c i th le y = true) : ∃ l, sk_at a c i = some l ∧ l.2.1 = th ∧ l.2.2.1 = le ∧ opn l.1 l ≤ y ∧ y < sht l.1 l (sk_at a c (i + 1)) := by
  cases hl : sk_at a c i with
  | none => rw [sk_q_none hl] at h; cases h
  | some l =>
    rw [sk_q_some hl] at h
    simp [bnd] at h
    exact ⟨l, rfl, h.1.1, h.1.2, h.2.1, h.2.2⟩
theorem sk_q_mk {a : Sk} {c i th le y : Int} {l : Ly} (hl : sk_at a c i = some l) (h1 : l.2.1 = th) (h2 : l.2.2.1 = le) (h3 : opn l.1 l ≤ y) (h4 : y < sht l.1 l (sk_at a c (i + 1))) : sk_q a c i th le y = true := by
  rw [sk_q_some hl]
  simp [bnd, h1, h2, h3, h4]
theorem opn_b {a : Sk} (ha : okSk a) {c i : Int} {l : Ly} (hl : sk_at a c i = some l) : 0 ≤ opn l.1 l ∧ (opn l.1 l = 1000000 ∨ opn l.1 l ≤ 999) := by
  obtain ⟨-, -, -, w1, w2⟩ := sk_ok_at ha hl
  have := ha.1
  unfold opn
  split <;> (try split) <;> omega
/-- a first quarrel begins where a layer of the thing opens -/
theorem sk_q_first {a : Sk} (ha : okSk a) {th y : Int} (h : sk_law a th y = 3) (h0 : 0 ≤ y) (hm : ∀ y', 0 ≤ y' → y' < y → sk_law a th y' ≠ 3) : ∃ (c i : Nat) (l : Ly), c < 6 ∧ i < 4 ∧ sk_at a c i = some l ∧ l.2.1 = th ∧ opn l.1 l = y := by
  obtain ⟨p1, p0⟩ := sk_law3.mp h
  obtain ⟨c1, i1, k1, k2, q1⟩ := sk_N_pos.mp p1
  obtain ⟨c0, i0, k3, k4, q0⟩ := sk_N_pos.mp p0
  obtain ⟨l1, g1, g2, g3, g4, g5⟩ := sk_q_ex q1
  obtain ⟨l0, f1, f2, f3, f4, f5⟩ := sk_q_ex q0
  have b1 := opn_b ha g1
  have b0 := opn_b ha f1
  by_cases hle : opn l1.1 l1 ≤ opn l0.1 l0
  · have h3 : sk_law a th (opn l0.1 l0) = 3 := sk_law3.mpr ⟨sk_N_pos.mpr ⟨c1, i1, k1, k2, sk_q_mk g1 g2 g3 hle (by omega)⟩, sk_N_pos.mpr ⟨c0, i0, k3, k4, sk_q_mk f1 f2 f3 (Int.le_refl _) (by omega)⟩⟩
    by_cases he : opn l0.1 l0 = y
    · exact ⟨c0, i0, l0, k3, k4, f1, f2, he⟩
    · exact absurd h3 (hm _ b0.1 (by omega))
  · have h3 : sk_law a th (opn l1.1 l1) = 3 := sk_law3.mpr ⟨sk_N_pos.mpr ⟨c1, i1, k1, k2, sk_q_mk g1 g2 g3 (Int.le_refl _) (by omega)⟩, sk_N_pos.mpr ⟨c0, i0, k3, k4, sk_q_mk f1 f2 f3 (by omega) (by omega)⟩⟩
    by_cases he : opn l1.1 l1 = y
    · exact ⟨c1, i1, l1, k1, k2, g1, g2, he⟩
    · exact absurd h3 (hm _ b1.1 (by omega))
/-- f is a lower bound for the quarrels at the openings that were looked at, and one of them or 1000000 -/
def fqI (a : Sk) (th : Int) (f : Int) (c i : Nat) : Prop := (f = 1000000 ∨ (0 ≤ f ∧ f ≤ 999 ∧ sk_law a th f = 3)) ∧ ∀ (c' i' : Nat) (l : Ly), c' < 6 → (c' < c ∨ (c' = c ∧ i' < i)) → sk_at a c' i' = some l → l.2.1 = th → opn l.1 l ≠ 1000000 → sk_law a th (opn l.1 l) = 3 → f ≤ opn l.1 l
theorem least_ex {P : Int → Prop} {y : Int} (h0 : 0 ≤ y) (hy : P y) : ∃ z, 0 ≤ z ∧ z ≤ y ∧ P z ∧ ∀ w, 0 ≤ w → w < z → ¬ P w := by
  have key : ∀ n : Nat, P n → ∃ z : Nat, z ≤ n ∧ P z ∧ ∀ w : Nat, w < z → ¬ P w := by
    intro n
    induction n using Nat.strongRecOn with
    | _ n ih =>
      intro hn
      by_cases hx : ∃ w : Nat, w < n ∧ P w
      · obtain ⟨w, h1, h2⟩ := hx
        obtain ⟨z, g1, g2, g3⟩ := ih w h1 h2
        exact ⟨z, by omega, g2, g3⟩
      · exact ⟨n, Nat.le_refl _, hn, fun w hw hp => hx ⟨w, hw, hp⟩⟩
  obtain ⟨z, h1, h2, h3⟩ := key y.toNat (by rw [Int.toNat_of_nonneg h0]; exact hy)
  refine ⟨z, by omega, by omega, h2, fun w hw hlt hp => h3 w.toNat (by omega) (by rw [Int.toNat_of_nonneg hw]; exact hp)⟩
set_option maxRecDepth 20000 in
theorem mt_X3_firstQuarrel {kd : Nat → Nat} {K : zK} {X : zX} (hX : ∀ (n pc : Nat) (ls : zLS) (st : List zV) (M : zM), zrun (tb_X3_firstQuarrel kd K) [(5, [4, 5, 6]), (14, [5, 6])] n X pc ls st M → X pc ls st M) (t : Nat) (g : Int32) (M : zM) (h : (kd t = 3) ∧ ∃ a : Sk, (RpS (M.1 t) a) ∧ ∀ v : Int32, (sk_isQ a g.toInt v.toInt) → K (some (zI v)) M) : X 0 [some (zR t 0), some (zI (g)), none, none, none, none, none] [] M := by
  obtain ⟨hk, a, ha, hK⟩ := h
  have inner : ∀ (cn : Nat) (c : Int32), c.toInt = cn → cn < 6 → (∀ f : Int32, fqI a g.toInt f.toInt (cn + 1) 0 → X 5 [some (zR t 0), some (zI g), some (zI f), some (zI (c + 1)), none, none, none] [] M) → ∀ f : Int32, fqI a g.toInt f.toInt cn 0 → X 14 [some (zR t 0), some (zI g), some (zI f), some (zI c), some (zI 0), none, none] [] M := by
    intro cn c hc hcn hout f hf
    refine up (N := 4) (Q := fun k => ∀ f i : Int32, i.toInt = k → fqI a g.toInt f.toInt cn k → X 14 [some (zR t 0), some (zI g), some (zI f), some (zI c), some (zI i), none, none] [] M) (fun f i hi hf => ?_) (fun k hk4 ih f i hi hf => ?_) 0 (by omega) f 0 rfl hf
    · refine vc_X3_firstQuarrel_14 hX hk ⟨fun _ => hout f ⟨hf.1, fun c' i' l h1 h2 h3 h4 h5 => hf.2 c' i' l h1 ?_ h3 h4 h5⟩, fun q => ?_⟩
      · have := sk_at_some h3
        have hb := sk_len_b ha.1 this.1 this.2.1
        omega
      · simp only [Int32.lt_iff_toInt_lt, Int32.le_iff_toInt_le, ← Int32.toInt_inj, Int32.toInt_add, Int32.toInt_sub, Int32.toInt_mul, Int32.toInt_neg, Int.bmod, Int32.reduceToInt] at q; omega
    · have next : ∀ f' : Int32, fqI a g.toInt f'.toInt cn (k + 1) → X 14 [some (zR t 0), some (zI g), some (zI f'), some (zI c), some (zI (i + 1)), none, none] [] M := fun f' hf' => ih f' (i + 1) (z_inc hi (by omega)) hf'
      have stay : (∀ l : Ly, sk_at a c.toInt i.toInt = some l → l.2.1 = g.toInt → opn l.1 l ≠ 1000000 → sk_law a g.toInt (opn l.1 l) = 3 → f.toInt ≤ opn l.1 l) → fqI a g.toInt f.toInt cn (k + 1) := fun hx => ⟨hf.1, fun c' i' l h1 h2 h3 h4 h5 h6 => by
        by_cases he : c' = cn ∧ i' = k
        · obtain ⟨rfl, rfl⟩ := he
          rw [← hc, ← hi] at h3
          exact hx l h3 h4 h5 h6
        · exact hf.2 c' i' l h1 (by omega) h3 h4 h5 h6⟩
      refine vc_X3_firstQuarrel_14 hX hk ⟨fun q => ?_, fun _ => ⟨a, ha, fun v1 hv1 => ?_⟩⟩
      · simp only [Int32.lt_iff_toInt_lt, Int32.le_iff_toInt_le, ← Int32.toInt_inj, Int32.toInt_add, Int32.toInt_sub, Int32.toInt_mul, Int32.toInt_neg, Int.bmod, Int32.reduceToInt] at q; omega
      · rcases sk_sl ha hv1 with ⟨e1, e2⟩ | ⟨e1, l, e2, ⟨q1, q2, q3, -, -⟩, ok, hb, hq, hc6, hget⟩
        · exact ⟨fun _ => next f (stay (fun l hl => by rw [e2] at hl; cases hl)), fun q => absurd e1 q⟩
        · have zz : ∀ o, 2 ≤ o → o ≤ 6 → zin (kd t) o 0 v1 := fun o h2 h6 => zin_of (n := 24) (by rw [hk]; rcases (show o = 2 ∨ o = 3 ∨ o = 4 ∨ o = 5 ∨ o = 6 by omega) with rfl | rfl | rfl | rfl | rfl <;> rfl) hb.1 hb.2
          have ob := opn_b ha.1 e2
          have fb : 0 ≤ f.toInt ∧ f.toInt ≤ 1000000 := by
            rcases hf.1 with h | h <;> omega
          refine ⟨fun q => absurd q e1, fun _ => ⟨zz 3 (by omega) (by omega), fun h3 => ⟨zz 2 (by omega) (by omega), a, ha, c.toInt.toNat, i.toInt.toNat, l, hc6, hget, hq, fun v2 hv2 => ?_⟩, fun h3 => next f (stay (fun l' hl' ht => ?_))⟩⟩
          · rw [q1] at hv2
            refine ⟨fun h4 => next f (stay (fun l' hl' ht hn h5 => ?_)), fun h4 => ⟨a, ha, ?_, fun v3 hv3 => ⟨fun h5 => next f (stay (fun l' hl' ht hn h6 => ?_)), fun h5 => next v2 ?_⟩⟩⟩
            · rw [e2] at hl'; cases hl'
              rw [Int32.le_iff_toInt_le, hv2] at h4
              exact h4
            · rw [Int32.le_iff_toInt_le] at h4; omega
            · rw [e2] at hl'; cases hl'
              rw [← Int32.toInt_inj, hv3, hv2] at h5
              exact absurd h6 h5
            · rw [← Int32.toInt_inj, hv3, hv2] at h5
              have h5' : sk_law a g.toInt (opn l.1 l) = 3 := h5
              rw [Int32.le_iff_toInt_le, hv2] at h4
              rw [hv2]
              refine ⟨Or.inr ⟨ob.1, by omega, h5'⟩, fun c' i' l' h1 h2 h3 h6 h7 h8 => ?_⟩
              by_cases he : c' = cn ∧ i' = k
              · obtain ⟨rfl, rfl⟩ := he
                rw [← hc, ← hi, e2] at h3
                cases h3
                exact Int.le_refl _
              · have := hf.2 c' i' l' h1 (by omega) h3 h6 h7 h8
                omega
          · rw [e2] at hl'; cases hl'
            rw [← Int32.toInt_inj, q2] at h3
            exact absurd ht h3
  refine vc_X3_firstQuarrel_0 hX (up (N := 6) (Q := fun k => ∀ f c : Int32, c.toInt = k → fqI a g.toInt f.toInt k 0 → X 5 [some (zR t 0), some (zI g), some (zI f), some (zI c), none, none, none] [] M) (fun f c hc hf => ?_) (fun k hk4 ih f c hc hf => ?_) 0 (by omega) 1000000 0 rfl ⟨Or.inl rfl, fun c' i' l h1 h2 => by omega⟩)
  · have low : ∀ y, 0 ≤ y → y ≤ 999 → sk_law a g.toInt y = 3 → f.toInt ≤ y := fun y h0 h9 h3 => by
      obtain ⟨z, z0, zy, hz, hzm⟩ := least_ex (P := fun y => sk_law a g.toInt y = 3) h0 h3
      obtain ⟨c', i', l, k1, k2, k3, k4, k5⟩ := sk_q_first ha.1 hz z0 hzm
      have := hf.2 c' i' l k1 (by omega) k3 k4 (by omega) (by rw [k5]; exact hz)
      omega
    refine vc_X3_firstQuarrel_5 hX ⟨fun _ => ⟨fun h1 => hK _ (Or.inr ?_), fun h1 => hK _ (Or.inl ⟨rfl, fun y h0 h9 h3 => ?_⟩)⟩, fun q => ?_⟩
    · rw [← Int32.toInt_inj] at h1
      have h1' : ¬ f.toInt = 1000000 := h1
      rcases hf.1 with h | ⟨h2, h3, h4⟩
      · exact absurd h h1'
      · exact ⟨h2, h3, h4, fun y h0 hlt h5 => by have := low y h0 (by omega) h5; omega⟩
    · have := low y h0 h9 h3
      rw [h1] at this
      have : (1000000 : Int) ≤ y := this
      omega
    · simp only [Int32.lt_iff_toInt_lt, Int32.le_iff_toInt_le, ← Int32.toInt_inj, Int32.toInt_add, Int32.toInt_sub, Int32.toInt_mul, Int32.toInt_neg, Int.bmod, Int32.reduceToInt] at q; omega
  · refine vc_X3_firstQuarrel_5 hX ⟨fun q => ?_, fun _ => inner k c hc hk4 (fun f' hf' => ih f' (c + 1) (z_inc hc (by omega)) hf') f hf⟩
    simp only [Int32.lt_iff_toInt_lt, Int32.le_iff_toInt_le, ← Int32.toInt_inj, Int32.toInt_add, Int32.toInt_sub, Int32.toInt_mul, Int32.toInt_neg, Int.bmod, Int32.reduceToInt] at q; omega
theorem ms_X3_firstQuarrel : zMS 6 yX3_firstQuarrel cX3_firstQuarrel 7 (some .int) sp_X3_firstQuarrel := by
  intro d hd
  obtain ⟨d', rfl⟩ : ∃ d', d = d' + 6 := ⟨d - 6, by omega⟩
  refine zmethod (tab := tb_X3_firstQuarrel) (cut := [(5, [4, 5, 6]), (14, [5, 6])]) (by decide) (tk_X3_firstQuarrel d' ms_X3_slot ms_X3_opens ms_X3_law) ?_
  intro kd as M K h
  unfold sp_X3_firstQuarrel at h
  split at h
  · rename_i t g
    exact ⟨Nat.le_of_ble_eq_true rfl, fun X hX => mt_X3_firstQuarrel hX t g M h⟩
  · exact h.elim

theorem zsm_bit {p : Nat → Bool} : ∀ n : Nat, 0 ≤ zsm (fun i => if p i then (2 : Int) ^ i else 0) n ∧ zsm (fun i => if p i then (2 : Int) ^ i else 0) n < 2 ^ n
  | 0 => by simp [zsm]
  | n + 1 => by
    have ih := zsm_bit (p := p) n
    have e : (2 : Int) ^ (n + 1) = 2 ^ n + 2 ^ n := by rw [Int.pow_succ]; omega
    have h0 : (0 : Int) ≤ 2 ^ n := Int.le_of_lt (Int.pow_pos (by decide))
    rw [zsm_s, e]
    split <;> omega
theorem z_orb {w i : Int32} {k : Nat} (hk : k < 6) (hi : i.toInt = k) (h0 : 0 ≤ w.toInt) (h1 : w.toInt < 2 ^ k) : (w ||| ((1 : Int32) <<< (i &&& 31))).toInt = w.toInt + 2 ^ k := by
  obtain ⟨wn, hw⟩ : ∃ wn : Nat, w.toInt = wn := ⟨w.toInt.toNat, by omega⟩
  have h2 : wn < 2 ^ k := by rw [hw] at h1; exact_mod_cast h1
  have h3 : 2 ^ k ≤ 2 ^ 5 := Nat.pow_le_pow_right (by decide) (by omega)
  have := z_or_bit k hk wn (by omega) h2
  rw [z_nI hw, z_nI hi, this, nI_toInt (by omega)]
  push_cast
  rfl
set_option maxRecDepth 20000 in
theorem mt_X3_tornOf {kd : Nat → Nat} {K : zK} {X : zX} (hX : ∀ (n pc : Nat) (ls : zLS) (st : List zV) (M : zM), zrun (tb_X3_tornOf kd K) [(5, [5])] n X pc ls st M → X pc ls st M) (t : Nat) (c : Int32) (y : Int32) (M : zM) (h : (kd t = 3) ∧ ∃ a : Sk, (RpS (M.1 t) a) ∧ (0 ≤ c.toInt ∧ c.toInt < 6) ∧ (0 ≤ y.toInt ∧ y.toInt < 1000000) ∧ ∀ v : Int32, (v.toInt = sk_tof a c.toInt y.toInt) → K (some (zI v)) M) : X 0 [some (zR t 0), some (zI (c)), some (zI (y)), none, none, none] [] M := by
  obtain ⟨hk, a, ha, hc, hy, hK⟩ := h
  refine vc_X3_tornOf_0 hX (up (N := 4) (Q := fun k => ∀ w i : Int32, i.toInt = k → w.toInt = zsm (fun j => if sk_tb a c.toInt j y.toInt then 2 ^ j else 0) k → X 5 [some (zR t 0), some (zI c), some (zI y), some (zI w), some (zI i), none] [] M) (fun w i hi hw => ?_) (fun k hk4 ih w i hi hw => ?_) 0 (by omega) 0 0 rfl rfl)
  · refine vc_X3_tornOf_5 hX hk ⟨fun _ => hK _ hw, fun q => ?_⟩
    simp only [Int32.lt_iff_toInt_lt, Int32.le_iff_toInt_le, ← Int32.toInt_inj, Int32.toInt_add, Int32.toInt_sub, Int32.toInt_mul, Int32.toInt_neg, Int.bmod, Int32.reduceToInt] at q; omega
  · have no : sk_tb a c.toInt i.toInt y.toInt = false → X 5 [some (zR t 0), some (zI c), some (zI y), some (zI w), some (zI (i + 1)), none] [] M := fun hn => ih w (i + 1) (z_inc hi (by omega)) (by rw [zsm_s, ← hi, hn, hw]; simp)
    have bw := zsm_bit (p := fun j => sk_tb a c.toInt j y.toInt) k
    refine vc_X3_tornOf_5 hX hk ⟨fun q => ?_, fun _ => ⟨a, ha, fun v1 hv1 => ?_⟩⟩
    · simp only [Int32.lt_iff_toInt_lt, Int32.le_iff_toInt_le, ← Int32.toInt_inj, Int32.toInt_add, Int32.toInt_sub, Int32.toInt_mul, Int32.toInt_neg, Int.bmod, Int32.reduceToInt] at q; omega
    · rcases sk_sl ha hv1 with ⟨e1, e2⟩ | ⟨e1, l, e2, ⟨q1, q2, q3, -, -⟩, ok, hb, hq, hc6, hget⟩
      · exact ⟨fun _ => no (by unfold sk_tb; rw [e2]), fun q => absurd e1 q⟩
      · have zz : ∀ o, 2 ≤ o → o ≤ 6 → zin (kd t) o 0 v1 := fun o h2 h6 => zin_of (n := 24) (by rw [hk]; rcases (show o = 2 ∨ o = 3 ∨ o = 4 ∨ o = 5 ∨ o = 6 by omega) with rfl | rfl | rfl | rfl | rfl <;> rfl) hb.1 hb.2
        have etb : sk_tb a c.toInt i.toInt y.toInt = (sk_bd a c.toInt i.toInt y.toInt && decide (sk_side a l.2.1 y.toInt = l.2.2.1)) := by unfold sk_tb; rw [e2, sk_bd_some e2]
        refine ⟨fun q => absurd q e1, fun _ => ⟨a, ha, hy, fun v2 hv2 => ⟨fun h2 => no ?_, fun h2 => ⟨zz 3 (by omega) (by omega), a, ha, hy, fun v3 hv3 => ⟨zz 4 (by omega) (by omega), fun h3 => no ?_, fun h3 => ih _ _ (z_inc hi (by omega)) ?_⟩⟩⟩⟩⟩
        · rw [hv2, zp_0] at h2
          rw [etb]; simp [h2]
        · rw [← Int32.toInt_inj, hv3, q3, q2] at h3
          rw [etb]; simp [h3]
        · rw [← Int32.toInt_inj, hv3, q3, q2] at h3
          rw [hv2, zp_n] at h2
          have et : sk_tb a c.toInt i.toInt y.toInt = true := by rw [etb]; simp [h2, h3]
          rw [zsm_s, z_orb (by omega) hi (by omega) (by omega), hw, ← hi, et]
          simp
theorem ms_X3_tornOf : zMS 6 yX3_tornOf cX3_tornOf 6 (some .int) sp_X3_tornOf := by
  intro d hd
  obtain ⟨d', rfl⟩ : ∃ d', d = d' + 6 := ⟨d - 6, by omega⟩
  refine zmethod (tab := tb_X3_tornOf) (cut := [(5, [5])]) (by decide) (tk_X3_tornOf d' ms_X3_slot ms_X3_bound ms_X3_tornSide) ?_
  intro kd as M K h
  unfold sp_X3_tornOf at h
  split at h
  · rename_i t c y
    exact ⟨Nat.le_of_ble_eq_true rfl, fun X hX => mt_X3_tornOf hX t c y M h⟩
  · exact h.elim

theorem z_shl1 : ∀ k, k < 5 → ((1 : Int32) <<< (nI k &&& 31)).toInt = ((2 ^ k : Nat) : Int) := by decide +kernel
set_option maxRecDepth 20000 in
theorem mt_X3_hangingOn {kd : Nat → Nat} {K : zK} {X : zX} (hX : ∀ (n pc : Nat) (ls : zLS) (st : List zV) (M : zM), zrun (tb_X3_hangingOn kd K) [] n X pc ls st M → X pc ls st M) (t : Nat) (c : Int32) (i : Int32) (y : Int32) (M : zM) (h : (kd t = 3) ∧ ∃ a : Sk, (RpS (M.1 t) a) ∧ (0 ≤ y.toInt ∧ y.toInt < 1000000) ∧ ∀ v : Int32, (v.toInt = sk_hang a c.toInt i.toInt y.toInt) → K (some (zI v)) M) : X 0 [some (zR t 0), some (zI (c)), some (zI (i)), some (zI (y)), none] [] M := by
  obtain ⟨hk, a, ha, hy, hK⟩ := h
  refine vc_X3_hangingOn_0 hX hk ⟨a, ha, fun v1 hv1 => ?_⟩
  rcases sk_sl ha hv1 with ⟨e1, e2⟩ | ⟨e1, l, e2, ⟨q1, q2, q3, -, -⟩, ok, hb, hq, hc6, hget⟩
  · exact ⟨fun _ => hK _ (by unfold sk_hang; rw [e2]; rfl), fun q => absurd e1 q⟩
  · have zz : ∀ o, 2 ≤ o → o ≤ 6 → zin (kd t) o 0 v1 := fun o h2 h6 => zin_of (n := 24) (by rw [hk]; rcases (show o = 2 ∨ o = 3 ∨ o = 4 ∨ o = 5 ∨ o = 6 by omega) with rfl | rfl | rfl | rfl | rfl <;> rfl) hb.1 hb.2
    have eh : sk_hang a c.toInt i.toInt y.toInt = if sk_bd a c.toInt i.toInt y.toInt = true ∧ sk_N a l.2.1 l.2.2.1 y.toInt = 1 then 2 ^ l.2.1.toNat else 0 := by unfold sk_hang; rw [e2, sk_bd_some e2]
    rw [eh] at hK
    refine ⟨fun q => absurd q e1, fun _ => ⟨a, ha, hy, fun v2 hv2 => ⟨fun h2 => ⟨zz 3 (by omega) (by omega), zz 4 (by omega) (by omega), a, ha, hy, fun v3 hv3 => ⟨fun h3 => hK _ ?_, fun h3 => ⟨zz 3 (by omega) (by omega), hK _ ?_⟩⟩⟩, fun h2 => hK _ ?_⟩⟩⟩
    · rw [q2, q3] at hv3
      rw [← Int32.toInt_inj, hv3] at h3
      have h3' : ¬ sk_N a l.2.1 l.2.2.1 y.toInt = 1 := h3
      rw [if_neg (fun q => h3' q.2)]; rfl
    · rw [hv2, zp_n] at h2
      rw [q2, q3] at hv3
      rw [← Int32.toInt_inj, hv3] at h3
      have h3' : sk_N a l.2.1 l.2.2.1 y.toInt = 1 := h3
      rw [if_pos ⟨h2, h3'⟩]
      obtain ⟨-, ⟨t1, t2⟩, -⟩ := ok
      obtain ⟨tn, ht⟩ : ∃ tn : Nat, l.2.1 = tn := ⟨l.2.1.toNat, by omega⟩
      rw [z_nI (q2.trans ht), z_shl1 tn (by omega), ht]
      push_cast
      rfl
    · rw [hv2, zp_0] at h2
      rw [if_neg (fun q => h2 q.1)]; rfl
theorem ms_X3_hangingOn : zMS 5 yX3_hangingOn cX3_hangingOn 5 (some .int) sp_X3_hangingOn := by
  intro d hd
  obtain ⟨d', rfl⟩ : ∃ d', d = d' + 5 := ⟨d - 5, by omega⟩
  refine zmethod (tab := tb_X3_hangingOn) (cut := []) (by decide) (tk_X3_hangingOn d' ms_X3_slot ms_X3_bound ms_X3_tally) ?_
  intro kd as M K h
  unfold sp_X3_hangingOn at h
  split at h
  · rename_i t c i y
    exact ⟨Nat.le_of_ble_eq_true rfl, fun X hX => mt_X3_hangingOn hX t c i y M h⟩
  · exact h.elim

