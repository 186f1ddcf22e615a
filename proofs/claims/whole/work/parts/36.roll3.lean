theorem RpX.tr {kd : Nat → Nat} {M M' : zM} {s : St} (h : RpX kd M s) (ht : trF M 6 M') : RpX kd M' s ∧ fr9 M M' :=
  h.g (M' := M') (r := s.1) (b := s.2.2.1) (by rw [ht.1 2 (by decide) (by decide)]; exact h.1.1) (by rw [ht.1 3 (by decide) (by decide)]; exact h.1.2.1) (by rw [ht.1 4 (by decide) (by decide)]; exact h.1.2.2) (by rw [ht.1 8 (by decide) (by decide)]; exact h.2.2.1) (fun n hn => ht.1 n (by omega) (by omega)) ht.2
theorem fr9.tr {M M' M'' : zM} (h : fr9 M M') (g : fr9 M' M'') : fr9 M M'' := ⟨by rw [g.1, h.1], by rw [g.2, h.2]⟩
theorem zsm_b2 {f g : Nat → Int} (h : ∀ k, 0 ≤ f k ∧ f k ≤ g k) : ∀ n, 0 ≤ zsm f n ∧ zsm f n ≤ zsm g n
  | 0 => ⟨Int.le_refl _, Int.le_refl _⟩
  | n + 1 => by
    rw [zsm_s, zsm_s]
    have := zsm_b2 h n
    have := h n
    omega
theorem seFit_b (q : List Se) (l : Ly) (o : Option Ly) (c i : Int) : 0 ≤ seFit q l o c i ∧ seFit q l o c i < 64 := by
  have h := zsm_b2 (f := fun k => if q.all (seOk k l o c i) then (2 : Int) ^ k else 0) (g := fun k => (2 : Int) ^ k) (fun k => by
    have hp : (0 : Int) ≤ 2 ^ k := Int.le_of_lt (Int.pow_pos (by decide))
    by_cases hc : (q.all (seOk k l o c i)) = true
    · simp only [if_pos hc]; exact ⟨hp, Int.le_refl _⟩
    · simp only [if_neg hc]; exact ⟨Int.le_refl _, hp⟩) 6
  have h63 : zsm (fun k => (2 : Int) ^ k) 6 = 63 := by decide
  unfold seFit
  rw [h63] at h
  omega
theorem rlq {kd : Nat → Nat} {M : zM} {s s' : St} {K : zK} {R : Int → Prop} (hR : RpX kd M s) (hK : ∀ v : Int32, R v.toInt → ∀ M' : zM, RpX kd M' s' → fr9 M M' → K (some (zI v)) M') {w : Int32} (k : Nat) (hz : k < 3 ∧ w.toInt = -2 - (k : Int)) (e : R w.toInt) (e' : s' = sRf s k) : ∃ s2 : St, (RpX kd M s2) ∧ ∃ k2 : Nat, (k2 < 3 ∧ w.toInt = -2 - (k2 : Int)) ∧ ∀ v2 : Int32, (v2 = w) → ∀ M2 : zM, (RpX kd M2 (sRf s2 k2)) → (fr9 M M2) → K (some (zI v2)) M2 :=
  ⟨s, hR, k, hz, fun v2 h2 M2 g f => hK v2 (by rw [h2]; exact e) M2 (by rw [e']; exact g) f⟩
set_option maxRecDepth 20000 in
theorem mt_X7_ends {kd : Nat → Nat} {K : zK} {X : zX} (hX : ∀ (n pc : Nat) (ls : zLS) (st : List zV) (M : zM), zrun (tb_X7_ends kd K) [] n X pc ls st M → X pc ls st M) (c : Int32) (i : Int32) (M : zM) (h : (kd 0 = 1) ∧ (KdX kd) ∧ ∃ s : St, (RpX kd M s) ∧ ∀ v : Int32, (er_ends s c.toInt i.toInt v.toInt) → ∀ M' : zM, (RpX kd M' (es_ends s c.toInt i.toInt)) → (fr9 M M') → K (some (zI v)) M') : X 0 [some (zR 0 0), some (zI (c)), some (zI (i))] [] M := by
  obtain ⟨_, hk, s, hR, hK⟩ := h
  obtain ⟨k0, k1, k2, k3, k4, k5, k6, k7, k8, ki⟩ := id hk
  refine vc_X7_ends_0 hX k0 k2 k1 ⟨s.1.1, hR.1.1, fun v1 h1 => ⟨fun q => ?_, fun q => ?_⟩⟩
  · rw [h1, zp_0] at q
    exact rlq (R := fun x => er_ends s c.toInt i.toInt x) hR hK 0 (by decide) (by unfold er_ends; rw [if_neg q]; rfl) (by unfold es_ends; rw [if_neg q])
  · rw [h1, zp_n] at q
    obtain ⟨l, hl⟩ := Option.isSome_iff_exists.mp q
    exact ⟨_, hR.1.1, l, hl, fun v3 h3 => hK v3 (by unfold er_ends; rw [if_pos q]; exact h3) M (by unfold es_ends; rw [if_pos q]; exact hR) ⟨rfl, rfl⟩⟩
theorem ms_X7_ends : zMS 6 yX7_ends cX7_ends 3 (some .int) sp_X7_ends := by
  intro d hd
  obtain ⟨d', rfl⟩ : ∃ d', d = d' + 6 := ⟨d - 6, by omega⟩
  refine zmethod (tab := tb_X7_ends) (cut := []) (by decide) (tk_X7_ends d' ms_X3_has ms_X3_lastEnd ms_X7_refuse) ?_
  intro kd as M K h
  unfold sp_X7_ends at h
  split at h
  · rename_i c i
    exact ⟨Nat.le_of_ble_eq_true rfl, fun X hX => mt_X7_ends hX c i M h⟩
  · exact h.elim

set_option maxRecDepth 20000 in
theorem mt_X7_quarrel {kd : Nat → Nat} {K : zK} {X : zX} (hX : ∀ (n pc : Nat) (ls : zLS) (st : List zV) (M : zM), zrun (tb_X7_quarrel kd K) [] n X pc ls st M → X pc ls st M) (g : Int32) (M : zM) (h : (kd 0 = 1) ∧ (KdX kd) ∧ ∃ s : St, (RpX kd M s) ∧ ∀ v : Int32, (er_quarrel s g.toInt v.toInt) → ∀ M' : zM, (RpX kd M' (es_quarrel s g.toInt)) → (fr9 M M') → K (some (zI v)) M') : X 0 [some (zR 0 0), some (zI (g))] [] M := by
  obtain ⟨_, hk, s, hR, hK⟩ := h
  obtain ⟨k0, k1, k2, k3, k4, k5, k6, k7, k8, ki⟩ := id hk
  refine vc_X7_quarrel_0 hX k0 k2 k1 (fun v1 h1 => ⟨fun q => ?_, fun q => ⟨_, hR.1.1, fun v3 h3 => ?_⟩⟩)
  · rw [h1, zp_0] at q
    exact rlq (R := fun x => er_quarrel s g.toInt x) hR hK 0 (by decide) (by unfold er_quarrel; rw [if_neg q]; rfl) (by unfold es_quarrel; rw [if_neg q])
  · rw [h1, zp_n] at q
    exact hK v3 (by unfold er_quarrel; rw [if_pos q]; exact h3) M (by unfold es_quarrel; rw [if_pos q]; exact hR) ⟨rfl, rfl⟩
theorem ms_X7_quarrel : zMS 7 yX7_quarrel cX7_quarrel 2 (some .int) sp_X7_quarrel := by
  intro d hd
  obtain ⟨d', rfl⟩ : ∃ d', d = d' + 7 := ⟨d - 7, by omega⟩
  refine zmethod (tab := tb_X7_quarrel) (cut := []) (by decide) (tk_X7_quarrel d' ms_X7_isThing ms_X3_firstQuarrel ms_X7_refuse) ?_
  intro kd as M K h
  unfold sp_X7_quarrel at h
  split at h
  · rename_i g
    exact ⟨Nat.le_of_ble_eq_true rfl, fun X hX => mt_X7_quarrel hX g M h⟩
  · exact h.elim

set_option maxRecDepth 20000 in
theorem mt_X7_look {kd : Nat → Nat} {K : zK} {X : zX} (hX : ∀ (n pc : Nat) (ls : zLS) (st : List zV) (M : zM), zrun (tb_X7_look kd K) [] n X pc ls st M → X pc ls st M) (c : Int32) (i : Int32) (M : zM) (h : (kd 0 = 1) ∧ (KdX kd) ∧ ∃ s : St, (RpX kd M s) ∧ ∀ v : Int32, (er_look s c.toInt i.toInt v.toInt) → ∀ M' : zM, (RpX kd M' (es_ends s c.toInt i.toInt)) → (fr9 M M') → K (some (zI v)) M') : X 0 [some (zR 0 0), some (zI (c)), some (zI (i)), none] [] M := by
  obtain ⟨_, hk, s, hR, hK⟩ := h
  obtain ⟨k0, k1, k2, k3, k4, k5, k6, k7, k8, ki⟩ := id hk
  refine vc_X7_look_0 hX k2 k1 k0 k4 ⟨s.1.1, hR.1.1, fun v1 h1 => ⟨fun q => ?_, fun q => ?_⟩⟩
  · rw [h1, zp_n] at q
    obtain ⟨l, hl⟩ := Option.isSome_iff_exists.mp q
    have hs : es_ends s c.toInt i.toInt = s := by unfold es_ends; rw [if_pos q]
    rw [hs] at hK
    refine ⟨_, hR.1.2.2, _, hR.1.1, l, hl, fun v2 h2 => ⟨fun q2 => ⟨s.1.1, hR.1.1, by rw [h2]; exact seFit_b _ _ _ _ _, l, hl, fun v3 h3 => hK v3 ?_ M hR ⟨rfl, rfl⟩⟩, fun q2 => hK _ ?_ M hR ⟨rfl, rfl⟩⟩⟩
    · rw [← Int32.toInt_inj, h2] at q2
      have q2' : ¬ seFit s.1.2.2 l (sk_at s.1.1 c.toInt (i.toInt + 1)) c.toInt i.toInt = 0 := q2
      unfold er_look
      rw [hl]
      simp only
      rw [if_neg q2']
      rw [h2] at h3
      exact h3
    · rw [← Int32.toInt_inj, h2] at q2
      have q2' : seFit s.1.2.2 l (sk_at s.1.1 c.toInt (i.toInt + 1)) c.toInt i.toInt = 0 := q2
      unfold er_look
      rw [hl]
      simp only
      rw [if_pos q2']
      rfl
  · rw [h1, zp_0] at q
    have hn : sk_at s.1.1 c.toInt i.toInt = none := by simpa using q
    exact rlq (R := fun x => er_look s c.toInt i.toInt x) hR hK 0 (by decide) (by unfold er_look; rw [hn]; rfl) (by unfold es_ends; rw [if_neg q])
theorem ms_X7_look : zMS 6 yX7_look cX7_look 4 (some .int) sp_X7_look := by
  intro d hd
  obtain ⟨d', rfl⟩ : ∃ d', d = d' + 6 := ⟨d - 6, by omega⟩
  refine zmethod (tab := tb_X7_look) (cut := []) (by decide) (tk_X7_look d' ms_X3_has ms_X7_refuse ms_X0_fitting ms_X3_tellingYear) ?_
  intro kd as M K h
  unfold sp_X7_look at h
  split at h
  · rename_i c i
    exact ⟨Nat.le_of_ble_eq_true rfl, fun X hX => mt_X7_look hX c i M h⟩
  · exact h.elim

set_option maxRecDepth 20000 in
theorem mt_X7_strokes {kd : Nat → Nat} {K : zK} {X : zX} (hX : ∀ (n pc : Nat) (ls : zLS) (st : List zV) (M : zM), zrun (tb_X7_strokes kd K) [(95, [6])] n X pc ls st M → X pc ls st M) (g : Int32) (z : Int32) (y : Int32) (w : Int32) (M : zM) (h : (kd 0 = 1) ∧ (KdX kd) ∧ ∃ s : St, (RpX kd M s) ∧ ∀ v : Int32, (er_strokes s g.toInt z.toInt y.toInt w.toInt v.toInt) → ∀ M' : zM, (RpX kd M' (es_strokes s g.toInt z.toInt y.toInt w.toInt)) → (fr9 M M') → K (some (zI v)) M') : X 0 [some (zR 0 0), some (zI (g)), some (zI (z)), some (zI (y)), some (zI (w)), none, none] [] M := by
  obtain ⟨_, hk, s, hR, hK⟩ := h
  obtain ⟨k0, k1, k2, k3, k4, k5, k6, k7, k8, ki⟩ := id hk
  have ha : RpS (M.1 2) s.1.1 := hR.1.1
  have hy : (M.1 2 0 6).toInt = s.1.1.2 := ha.2.2
  have hyb := ha.1.1
  have bad : ¬ (isT g.toInt ∧ inn z.toInt 1 2 ∧ inn y.toInt 0 99 ∧ inn w.toInt 0 1) → ∃ s2 : St, (RpX kd M s2) ∧ ∃ k2 : Nat, (k2 < 3 ∧ (-2 : Int32).toInt = -2 - (k2 : Int)) ∧ ∀ v2 : Int32, (v2 = (-2 : Int32)) → ∀ M2 : zM, (RpX kd M2 (sRf s2 k2)) → (fr9 M M2) → K (some (zI v2)) M2 := fun q =>
    rlq (R := fun x => er_strokes s g.toInt z.toInt y.toInt w.toInt x) hR hK 0 (by decide) (by unfold er_strokes; rw [if_neg q]; rfl) (by unfold es_strokes; rw [if_neg q])
  refine vc_X7_strokes_0 hX k0 k7 k6 k2 k1 (fun v1 h1 => ⟨fun q => bad ?_, fun q1 v3 h3 => ⟨fun q => bad ?_, fun q3 v5 h5 => ⟨fun q => bad ?_, fun q5 v7 h7 => ⟨fun q7 => ?_, fun q => bad ?_⟩⟩⟩⟩)
  · rw [h1, zp_0] at q; exact fun x => q x.1
  · rw [h3, zp_0] at q; exact fun x => q x.2.1
  · rw [h5, zp_0] at q; exact fun x => q x.2.2.1
  · rw [h1, zp_n] at q1
    rw [h3, zp_n] at q3
    rw [h5, zp_n] at q5
    rw [h7, zp_n] at q7
    have q3' : 1 ≤ z.toInt ∧ z.toInt ≤ 2 := q3
    have q5' : 0 ≤ y.toInt ∧ y.toInt ≤ 99 := q5
    have q7' : 0 ≤ w.toInt ∧ w.toInt ≤ 1 := q7
    have hall : isT g.toInt ∧ inn z.toInt 1 2 ∧ inn y.toInt 0 99 ∧ inn w.toInt 0 1 := ⟨q1, q3', q5', q7'⟩
    have hes : es_strokes s g.toInt z.toInt y.toInt w.toInt = s := by unfold es_strokes; rw [if_pos hall]
    have hY : ((M.1 2 0 6) + y).toInt = s.1.1.2 + y.toInt := by simp only [Int32.lt_iff_toInt_lt, Int32.le_iff_toInt_le, ← Int32.toInt_inj, Int32.toInt_add, Int32.toInt_sub, Int32.toInt_mul, Int32.toInt_neg, Int.bmod, Int32.reduceToInt]; omega
    have w0 : w = 0 ↔ w.toInt = 0 := by rw [← Int32.toInt_inj]; exact Iff.rfl
    rw [hes] at hK
    rw [hY]
    refine ⟨by decide, by decide, s.1.1, ha, by unfold isT at q1; omega, by omega, fun M8 t8 r8 => ⟨_, _, _, r8, fun v9 h9 => ⟨fun q9 => ?_, fun q9 => ?_⟩⟩⟩
    · have hne : ¬ sk_law s.1.1 g.toInt (s.1.1.2 + y.toInt) = z.toInt := fun e => q9 (Int32.toInt_inj.mp (by rw [h9, e]))
      obtain ⟨R8, f8⟩ := hR.tr t8
      have hK' : ∀ (v : Int32) (M' : zM), (∃ f1, sRow s.1.1 g.toInt (s.1.1.2 + y.toInt) z.toInt 0 f1 ∧ ((f1 ≠ -1 ∧ v.toInt = (if w.toInt = 0 then 1 else f1)) ∨ (f1 = -1 ∧ ∃ f2, sRow s.1.1 g.toInt (s.1.1.2 + y.toInt) z.toInt 1 f2 ∧ v.toInt = (if f2 = -1 then -1 else if w.toInt = 0 then 2 else f2)))) → RpX kd M' s → fr9 M M' → K (some (zI v)) M' := fun v M' hv hM hf => hK v (by unfold er_strokes; rw [if_pos hall, if_neg hne]; exact hv) M' hM hf
      refine vc_X7_strokes_95 hX k7 k6 k0 ⟨fun q => absurd q (by decide), fun _ => ⟨_, _, _, r8, Or.inl rfl, by omega, fun v1 hv1 M1 t1 r1 => ⟨fun e1 => ?_, fun e1 => ?_⟩⟩⟩
      · obtain ⟨R1, f1⟩ := R8.tr t1
        have hv1' : sRow s.1.1 g.toInt (s.1.1.2 + y.toInt) z.toInt 0 (-1) := by
          have := hv1
          rw [e1] at this
          exact this
        refine vc_X7_strokes_95 hX k7 k6 k0 ⟨fun q => absurd q (by decide), fun _ => ⟨_, _, _, r1, Or.inr rfl, by omega, fun v2 hv2 M2 t2 r2 => ⟨fun e2 => ?_, fun e2 => ?_⟩⟩⟩
        · obtain ⟨R2, f2⟩ := R1.tr t2
          refine vc_X7_strokes_95 hX k7 k6 k0 ⟨fun _ => hK' _ M2 ⟨-1, hv1', Or.inr ⟨rfl, -1, ?_, rfl⟩⟩ R2 ((f8.tr f1).tr f2), fun q => absurd (show (2 : Int32) < 1 + 1 + 1 by decide) q⟩
          have := hv2
          rw [e2] at this
          exact this
        · obtain ⟨R2, f2⟩ := R1.tr t2
          have e2' : ¬ v2.toInt = -1 := fun e => e2 (Int32.toInt_inj.mp (by rw [e]; rfl))
          refine ⟨fun qw => hK' _ M2 ⟨-1, hv1', Or.inr ⟨rfl, v2.toInt, hv2, ?_⟩⟩ R2 ((f8.tr f1).tr f2), fun qw => hK' _ M2 ⟨-1, hv1', Or.inr ⟨rfl, v2.toInt, hv2, ?_⟩⟩ R2 ((f8.tr f1).tr f2)⟩
          · rw [w0] at qw; rw [if_neg e2', if_neg qw]
          · rw [w0] at qw; rw [if_neg e2', if_pos qw]; rfl
      · obtain ⟨R1, f1⟩ := R8.tr t1
        have e1' : ¬ v1.toInt = -1 := fun e => e1 (Int32.toInt_inj.mp (by rw [e]; rfl))
        refine ⟨fun qw => hK' _ M1 ⟨v1.toInt, hv1, Or.inl ⟨e1', ?_⟩⟩ R1 (f8.tr f1), fun qw => hK' _ M1 ⟨v1.toInt, hv1, Or.inl ⟨e1', ?_⟩⟩ R1 (f8.tr f1)⟩
        · rw [w0] at qw; rw [if_neg qw]
        · rw [w0] at qw; rw [if_pos qw]; rfl
    · have heq : sk_law s.1.1 g.toInt (s.1.1.2 + y.toInt) = z.toInt := by rw [← h9, q9]
      obtain ⟨R8, f8⟩ := hR.tr t8
      refine ⟨fun qw => hK _ ?_ M8 R8 f8, fun qw => hK _ ?_ M8 R8 f8⟩ <;> unfold er_strokes <;> rw [if_pos hall, if_pos heq]
      · rw [w0] at qw; rw [if_neg qw]; rfl
      · rw [w0] at qw; rw [if_pos qw]; rfl
  · rw [h7, zp_0] at q; exact fun x => q x.2.2.2
theorem ms_X7_strokes : zMS 11 yX7_strokes cX7_strokes 7 (some .int) sp_X7_strokes := by
  intro d hd
  obtain ⟨d', rfl⟩ : ∃ d', d = d' + 11 := ⟨d - 11, by omega⟩
  refine zmethod (tab := tb_X7_strokes) (cut := [(95, [6])]) (by decide) (tk_X7_strokes d' ms_X7_isThing ms_X7_within ms_X7_refuse ms_X6_begin ms_X6_law msa_X6_firstOfRow) ?_
  intro kd as M K h
  unfold sp_X7_strokes at h
  split at h
  · rename_i g z y w
    exact ⟨Nat.le_of_ble_eq_true rfl, fun X hX => mt_X7_strokes hX g z y w M h⟩
  · exact h.elim

set_option maxRecDepth 20000 in
theorem mt_X7_parties {kd : Nat → Nat} {K : zK} {X : zX} (hX : ∀ (n pc : Nat) (ls : zLS) (st : List zV) (M : zM), zrun (tb_X7_parties kd K) [] n X pc ls st M → X pc ls st M) (g : Int32) (y : Int32) (n : Int32) (w : Int32) (M : zM) (h : (kd 0 = 1) ∧ (KdX kd) ∧ ∃ s : St, (RpX kd M s) ∧ ∀ v : Int32, (v.toInt = (ev_parties s g.toInt y.toInt n.toInt w.toInt).1) → ∀ M' : zM, (RpX kd M' (ev_parties s g.toInt y.toInt n.toInt w.toInt).2) → (fr9 M M') → K (some (zI v)) M') : X 0 [some (zR 0 0), some (zI (g)), some (zI (y)), some (zI (n)), some (zI (w)), none] [] M := by
  obtain ⟨_, hk, s, hR, hK⟩ := h
  obtain ⟨k0, k1, k2, k3, k4, k5, k6, k7, k8, ki⟩ := id hk
  have ha : RpS (M.1 2) s.1.1 := hR.1.1
  have hy : (M.1 2 0 6).toInt = s.1.1.2 := ha.2.2
  have hyb := ha.1.1
  have bad : ¬ (isT g.toInt ∧ inn y.toInt 0 99 ∧ inn n.toInt 1 3 ∧ inn w.toInt 0 1) → ∃ s2 : St, (RpX kd M s2) ∧ ∃ k2 : Nat, (k2 < 3 ∧ (-2 : Int32).toInt = -2 - (k2 : Int)) ∧ ∀ v2 : Int32, (v2 = (-2 : Int32)) → ∀ M2 : zM, (RpX kd M2 (sRf s2 k2)) → (fr9 M M2) → K (some (zI v2)) M2 := fun q =>
    rfq hR hK 0 (-2) (by decide) (by unfold ev_parties; rw [if_neg q])
  refine vc_X7_parties_0 hX k0 k6 k7 k2 k1 (fun v1 h1 => ⟨fun q => bad ?_, fun q1 v3 h3 => ⟨fun q => bad ?_, fun q3 v5 h5 => ⟨fun q => bad ?_, fun q5 v7 h7 => ⟨fun q7 => ?_, fun q => bad ?_⟩⟩⟩⟩)
  · rw [h1, zp_0] at q; exact fun x => q x.1
  · rw [h3, zp_0] at q; exact fun x => q x.2.1
  · rw [h5, zp_0] at q; exact fun x => q x.2.2.1
  · rw [h1, zp_n] at q1
    rw [h3, zp_n] at q3
    rw [h5, zp_n] at q5
    rw [h7, zp_n] at q7
    have q3' : 0 ≤ y.toInt ∧ y.toInt ≤ 99 := q3
    have q5' : 1 ≤ n.toInt ∧ n.toInt ≤ 3 := q5
    have q7' : 0 ≤ w.toInt ∧ w.toInt ≤ 1 := q7
    have hall : isT g.toInt ∧ inn y.toInt 0 99 ∧ inn n.toInt 1 3 ∧ inn w.toInt 0 1 := ⟨q1, q3', q5', q7'⟩
    have hY : ((M.1 2 0 6) + y).toInt = s.1.1.2 + y.toInt := by simp only [Int32.lt_iff_toInt_lt, Int32.le_iff_toInt_le, ← Int32.toInt_inj, Int32.toInt_add, Int32.toInt_sub, Int32.toInt_mul, Int32.toInt_neg, Int.bmod, Int32.reduceToInt]; omega
    have w0 : w = 0 ↔ w.toInt = 0 := by rw [← Int32.toInt_inj]; exact Iff.rfl
    have hev : ev_parties s g.toInt y.toInt n.toInt w.toInt = ((if w.toInt = 0 then wv g.toInt (s.1.1.2 + y.toInt) n.toInt.toNat 1 s.1.1 else wc g.toInt (s.1.1.2 + y.toInt) (n.toInt.toNat - 1) 1 s.1.1), s) := by unfold ev_parties; rw [if_pos hall]
    rw [hev] at hK
    rw [hY]
    refine ⟨by decide, by decide, s.1.1, ha, by unfold isT at q1; omega, by omega, fun M8 t8 r8 => ⟨_, _, _, r8, by omega, Or.inr rfl, fun v9 h9 M9 t9 r9 hf9 => ?_⟩⟩
    obtain ⟨R8, f8⟩ := hR.tr t8
    obtain ⟨R9, f9⟩ := R8.tr t9
    refine ⟨fun qw => hK _ ?_ M9 R9 (f8.tr f9), fun qw => hK _ ?_ M9 R9 (f8.tr f9)⟩
    · rw [w0] at qw
      show _ = (if w.toInt = 0 then _ else _)
      rw [if_neg qw]
      exact hf9 (by omega)
    · rw [w0] at qw
      show _ = (if w.toInt = 0 then _ else _)
      rw [if_pos qw]
      exact h9
  · rw [h7, zp_0] at q; exact fun x => q x.2.2.2
theorem ms_X7_parties : zMS 11 yX7_parties cX7_parties 6 (some .int) sp_X7_parties := by
  intro d hd
  obtain ⟨d', rfl⟩ : ∃ d', d = d' + 11 := ⟨d - 11, by omega⟩
  refine zmethod (tab := tb_X7_parties) (cut := []) (by decide) (tk_X7_parties d' ms_X7_isThing ms_X7_within ms_X7_refuse ms_X6_begin msa_X6_worth) ?_
  intro kd as M K h
  unfold sp_X7_parties at h
  split at h
  · rename_i g y n w
    exact ⟨Nat.le_of_ble_eq_true rfl, fun X hX => mt_X7_parties hX g y n w M h⟩
  · exact h.elim

set_option maxRecDepth 20000 in
theorem mt_X7_part {kd : Nat → Nat} {K : zK} {X : zX} (hX : ∀ (n pc : Nat) (ls : zLS) (st : List zV) (M : zM), zrun (tb_X7_part kd K) [] n X pc ls st M → X pc ls st M) (w : Int32) (M : zM) (h : (kd 0 = 1) ∧ (KdX kd) ∧ ∃ s : St, (RpX kd M s) ∧ ∀ v : Int64, (v.toInt = (ev_part s w.toInt).1) → ∀ M' : zM, (RpX kd M' (ev_part s w.toInt).2) → (fr9 M M') → K (some (zL v)) M') : X 0 [some (zR 0 0), some (zI (w))] [] M := by
  obtain ⟨_, hk, s, hR, hK⟩ := h
  obtain ⟨k0, k1, k2, k3, k4, k5, k6, k7, k8, ki⟩ := id hk
  have w0 : w = 0 ↔ w.toInt = 0 := by rw [← Int32.toInt_inj]; exact Iff.rfl
  refine vc_X7_part_0 hX k0 (fun v1 h1 => ⟨fun q => ?_, fun q => ?_⟩)
  · rw [h1, zp_n] at q
    have q' : inn w.toInt 0 1 := q
    have hev : ev_part s w.toInt = ((if w.toInt = 0 then s.2.2.2.1.1 else s.2.2.2.1.2), s) := by unfold ev_part; rw [if_pos q']
    rw [hev] at hK
    refine ⟨fun qw => hK _ ?_ M hR ⟨rfl, rfl⟩, fun qw => hK _ ?_ M hR ⟨rfl, rfl⟩⟩
    · rw [w0] at qw
      show _ = (if w.toInt = 0 then _ else _)
      rw [if_neg qw]
      exact hR.2.2.2.1.2
    · rw [w0] at qw
      show _ = (if w.toInt = 0 then _ else _)
      rw [if_pos qw]
      exact hR.2.2.2.1.1
  · rw [h1, zp_0] at q
    have q' : ¬ inn w.toInt 0 1 := q
    have hev : ev_part s w.toInt = (-2, sRf s 0) := by unfold ev_part; rw [if_neg q']
    rw [hev] at hK
    exact ⟨s, hR, 0, by decide, fun v2 h2 M2 g f => hK _ (by rw [h2]; rfl) M2 g f⟩
theorem ms_X7_part : zMS 3 yX7_part cX7_part 2 (some .long) sp_X7_part := by
  intro d hd
  obtain ⟨d', rfl⟩ : ∃ d', d = d' + 3 := ⟨d - 3, by omega⟩
  refine zmethod (tab := tb_X7_part) (cut := []) (by decide) (tk_X7_part d' ms_X7_within ms_X7_refuse) ?_
  intro kd as M K h
  unfold sp_X7_part at h
  split at h
  · rename_i w
    exact ⟨Nat.le_of_ble_eq_true rfl, fun X hX => mt_X7_part hX w M h⟩
  · exact h.elim

