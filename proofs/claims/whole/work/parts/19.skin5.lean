set_option maxRecDepth 20000 in
theorem mt_J6_bitCount_0f7a4 {kd : Nat → Nat} {K : zK} {X : zX} (hX : ∀ (n pc : Nat) (ls : zLS) (st : List zV) (M : zM), zrun (tb_J6_bitCount_0f7a4 kd K) [] n X pc ls st M → X pc ls st M) (x : Int32) (M : zM) (h : (0 ≤ x.toInt ∧ x.toInt < 64) ∧ ∀ v : Int32, (v.toInt = pc6 x.toInt) → K (some (zI v)) M) : X 0 [some (zI (x))] [] M := by
  obtain ⟨hx, hK⟩ := h
  refine vc_J6_bitCount_0f7a4_0 hX (hK _ ?_)
  obtain ⟨n, hn⟩ : ∃ n : Nat, x.toInt = n := ⟨x.toInt.toNat, by omega⟩
  have h64 : n < 64 := by omega
  rw [z_nI hn]
  clear hn hx hK
  revert n
  decide +kernel
theorem ms_J6_bitCount_0f7a4 : zMS 1 yJ6_bitCount_0f7a4 cJ6_bitCount_0f7a4 1 (some .int) sp_J6_bitCount_0f7a4 := by
  intro d hd
  obtain ⟨d', rfl⟩ : ∃ d', d = d' + 1 := ⟨d - 1, by omega⟩
  refine zmethod (tab := tb_J6_bitCount_0f7a4) (cut := []) (by decide) (tk_J6_bitCount_0f7a4 d' ) ?_
  intro kd as M K h
  unfold sp_J6_bitCount_0f7a4 at h
  split at h
  · rename_i x
    exact ⟨Nat.le_of_ble_eq_true rfl, fun X hX => mt_J6_bitCount_0f7a4 hX x M h⟩
  · exact h.elim

set_option maxRecDepth 20000 in
theorem mt_X7_mix {kd : Nat → Nat} {K : zK} {X : zX} (hX : ∀ (n pc : Nat) (ls : zLS) (st : List zV) (M : zM), zrun (tb_X7_mix kd K) [] n X pc ls st M → X pc ls st M) (p : Int64) (q : Int64) (M : zM) (h : ∀ v : Int64, (v = 31 * p + q) → K (some (zL v)) M) : X 0 [some (zL (p)), none, some (zL (q)), none] [] M := by
  exact vc_X7_mix_0 hX (h _ rfl)
theorem ms_X7_mix : zMS 1 yX7_mix cX7_mix 4 (some .long) sp_X7_mix := by
  intro d hd
  obtain ⟨d', rfl⟩ : ∃ d', d = d' + 1 := ⟨d - 1, by omega⟩
  refine zmethod (tab := tb_X7_mix) (cut := []) (by decide) (tk_X7_mix d' ) ?_
  intro kd as M K h
  unfold sp_X7_mix at h
  split at h
  · rename_i p q
    exact ⟨Nat.le_of_ble_eq_true rfl, fun X hX => mt_X7_mix hX p q M h⟩
  · exact h.elim

theorem z_bit6 : ∀ k, k < 6 → ∀ n, n < 64 → (((nI n >>> (nI k &&& 31)) &&& (1 : Int32)) = (1 : Int32) ↔ bit6 n k = true) := by decide +kernel
theorem pc6_b (n : Int) : 0 ≤ pc6 n ∧ pc6 n ≤ 6 := by
  have := zsm_b (f := fun k => b2i (bit6 n k)) (fun k => b2i_b _) 6
  unfold pc6; omega
theorem yes6_b (n : Int) (p : Nat → Bool) : 0 ≤ yes6 n p ∧ yes6 n p ≤ pc6 n := by
  have h0 := zsm_b (f := fun k => b2i (bit6 n k && p k)) (fun k => b2i_b _) 6
  have h1 : ∀ m, zsm (fun k => b2i (bit6 n k && p k)) m ≤ zsm (fun k => b2i (bit6 n k)) m := by
    intro m
    induction m with
    | zero => simp [zsm]
    | succ m ih =>
      rw [zsm_s, zsm_s]
      have : b2i (bit6 n m && p m) ≤ b2i (bit6 n m) := by cases bit6 n m <;> cases p m <;> simp [b2i]
      omega
  unfold yes6 pc6
  exact ⟨by omega, h1 6⟩
theorem grt6_b (n : Int) (p : Nat → Bool) : 0 ≤ grt6 n p ∧ grt6 n p ≤ 6 := by
  have h1 := pc6_b n
  have h2 := yes6_b n p
  unfold grt6
  split <;> omega
/-- where a first least one stands so far -/
def argI (gr : Int → Int) (lo : Int) (j : Nat) (e b : Int) : Prop := (j = 0 ∧ e = 7 ∧ b = -1) ∨ (0 < j ∧ isArg gr lo (lo + j - 1) b ∧ e = gr b)
theorem argI_s {gr : Int → Int} {lo : Int} {j : Nat} {e b : Int} (hg : ∀ y, gr y ≤ 6) (h : argI gr lo j e b) : (e ≤ gr (lo + j) → argI gr lo (j + 1) e b) ∧ (¬ e ≤ gr (lo + j) → argI gr lo (j + 1) (gr (lo + j)) (lo + j)) := by
  rcases h with ⟨rfl, rfl, rfl⟩ | ⟨h1, ⟨h2, h3, h4⟩, h5⟩
  · have := hg (lo + (0 : Nat))
    refine ⟨fun q => by omega, fun _ => Or.inr ⟨by omega, ⟨by omega, fun y y1 y2 => ?_, fun y y1 y2 => by omega⟩, rfl⟩⟩
    rw [show y = lo + (0 : Nat) by omega]
    exact Int.le_refl _
  · refine ⟨fun q => Or.inr ⟨by omega, ⟨by omega, fun y y1 y2 => ?_, h4⟩, h5⟩, fun q => Or.inr ⟨by omega, ⟨by omega, fun y y1 y2 => ?_, fun y y1 y2 => ?_⟩, rfl⟩⟩
    · by_cases hy : y = lo + j
      · subst hy; omega
      · exact h3 y y1 (by omega)
    · by_cases hy : y = lo + j
      · subst hy; exact Int.le_refl _
      · have := h3 y y1 (by omega); omega
    · have := h3 y y1 (by omega); omega
set_option maxRecDepth 20000 in
theorem mt_X3_tellingYear {kd : Nat → Nat} {K : zK} {X : zX} (hX : ∀ (n pc : Nat) (ls : zLS) (st : List zV) (M : zM), zrun (tb_X3_tellingYear kd K) [(19, [8, 9]), (45, [])] n X pc ls st M → X pc ls st M) (t : Nat) (n : Int32) (c : Int32) (i : Int32) (M : zM) (h : (kd t = 3) ∧ ∃ a : Sk, (RpS (M.1 t) a) ∧ (0 ≤ n.toInt ∧ n.toInt < 64) ∧ ∃ l : Ly, (sk_at a c.toInt i.toInt = some l) ∧ ∀ v : Int32, (isArg (sk_lk a n.toInt c.toInt i.toInt) a.2 (hi99 a.2) v.toInt) → K (some (zI v)) M) : X 0 [some (zR t 0), some (zI (n)), some (zI (c)), some (zI (i)), none, none, none, none, none, none] [] M := by
  obtain ⟨hk, a, ha, hn, l, hl, hK⟩ := h
  have hyr := ha.1.1
  have hy2 := ha.2.2
  have e99 : ((M.1 t 0 6) + (99 : Int32)).toInt = a.2 + 99 := by simp only [Int32.lt_iff_toInt_lt, Int32.le_iff_toInt_le, ← Int32.toInt_inj, Int32.toInt_add, Int32.toInt_sub, Int32.toInt_mul, Int32.toInt_neg, Int.bmod, Int32.reduceToInt]; omega
  obtain ⟨nn, hnn⟩ : ∃ nn : Nat, n.toInt = nn := ⟨n.toInt.toNat, by omega⟩
  have hgr : ∀ y, sk_lk a n.toInt c.toInt i.toInt y = grt6 n.toInt (fun k => bnd k l (sk_at a c.toInt (i.toInt + 1)) y) := fun y => by unfold sk_lk; rw [hl]
  have hg6 : ∀ y, sk_lk a n.toInt c.toInt i.toInt y ≤ 6 := fun y => (grt6_b _ _).2
  have hpc := pc6_b n.toInt
  obtain ⟨N, hN⟩ : ∃ N : Nat, (N : Int) = hi99 a.2 - a.2 + 1 := ⟨(hi99 a.2 - a.2 + 1).toNat, by unfold hi99; split <;> omega⟩
  have hNb : 0 < N ∧ (a.2 + N = a.2 + 100 ∨ a.2 + N = 1000) ∧ a.2 + N ≤ a.2 + 100 ∧ a.2 + N ≤ 1000 := by unfold hi99 at hN; split at hN <;> omega
  refine vc_X3_tellingYear_0 hX hk ⟨hn, fun w hw => up (N := N) (Q := fun j => ∀ e b y : Int32, y.toInt = a.2 + j → argI (sk_lk a n.toInt c.toInt i.toInt) a.2 j e.toInt b.toInt → X 19 [some (zR t 0), some (zI n), some (zI c), some (zI i), some (zI w), some (zI e), some (zI b), some (zI y), none, none] [] M) (fun e b y hy hI => ?_) (fun j hj ih e b y hy hI => ?_) 0 (by omega) 7 (-1) (M.1 t 0 6) (by rw [hy2]; simp) (Or.inl ⟨rfl, rfl, rfl⟩)⟩
  · have fin : K (some (zI b)) M := hK _ (by
      rcases hI with ⟨h, -⟩ | ⟨-, h, -⟩
      · omega
      · rw [show hi99 a.2 = a.2 + N - 1 by omega]; exact h)
    exact vc_X3_tellingYear_19 hX hk ⟨fun _ => fin, fun q1 => ⟨fun _ => fin, fun q2 => by
      rw [Int32.lt_iff_toInt_lt, e99] at q1
      simp only [Int32.lt_iff_toInt_lt, Int32.le_iff_toInt_le, ← Int32.toInt_inj, Int32.toInt_add, Int32.toInt_sub, Int32.toInt_mul, Int32.toInt_neg, Int.bmod, Int32.reduceToInt] at q2
      omega⟩⟩
  · refine vc_X3_tellingYear_19 hX hk ⟨fun q1 => ?_, fun q1 => ⟨fun q2 => ?_, fun q2 => ?_⟩⟩
    · rw [Int32.lt_iff_toInt_lt, e99] at q1; omega
    · simp only [Int32.lt_iff_toInt_lt, Int32.le_iff_toInt_le, ← Int32.toInt_inj, Int32.toInt_add, Int32.toInt_sub, Int32.toInt_mul, Int32.toInt_neg, Int.bmod, Int32.reduceToInt] at q2; omega
    · refine up (N := 6) (Q := fun k => ∀ s kk : Int32, kk.toInt = k → s.toInt = zsm (fun k => b2i (bit6 n.toInt k && bnd k l (sk_at a c.toInt (i.toInt + 1)) y.toInt)) k → X 45 [some (zR t 0), some (zI n), some (zI c), some (zI i), some (zI w), some (zI e), some (zI b), some (zI y), some (zI s), some (zI kk)] [] M) (fun s kk hkk hs => ?_) (fun k hk6 ih2 s kk hkk hs => ?_) 0 (by omega) 0 0 rfl rfl
      · have hs' : s.toInt = yes6 n.toInt (fun k => bnd k l (sk_at a c.toInt (i.toInt + 1)) y.toInt) := hs
        have hyb := yes6_b n.toInt (fun k => bnd k l (sk_at a c.toInt (i.toInt + 1)) y.toInt)
        have ews : (w - s).toInt = w.toInt - s.toInt := by simp only [Int32.lt_iff_toInt_lt, Int32.le_iff_toInt_le, ← Int32.toInt_inj, Int32.toInt_add, Int32.toInt_sub, Int32.toInt_mul, Int32.toInt_neg, Int.bmod, Int32.reduceToInt]; omega
        have eg : (if s < (w - s) then (w - s) else s).toInt = sk_lk a n.toInt c.toInt i.toInt (a.2 + j) := by
          rw [hgr, ← hy]
          unfold grt6
          simp only [Int32.lt_iff_toInt_lt]
          rw [← hs', ← hw]
          split <;> split <;> omega
        obtain ⟨s1, s2⟩ := argI_s hg6 hI
        have ey : (y + 1).toInt = a.2 + ((j + 1 : Nat) : Int) := by simp only [Int32.lt_iff_toInt_lt, Int32.le_iff_toInt_le, ← Int32.toInt_inj, Int32.toInt_add, Int32.toInt_sub, Int32.toInt_mul, Int32.toInt_neg, Int.bmod, Int32.reduceToInt]; omega
        refine vc_X3_tellingYear_45 hX hk ⟨fun _ => ⟨fun q => ih e b (y + 1) ey (s1 ?_), fun q => ih _ y (y + 1) ey ?_⟩, fun q => ?_⟩
        · rw [Int32.le_iff_toInt_le, eg] at q; exact q
        · rw [Int32.le_iff_toInt_le, eg] at q
          rw [eg, hy]; exact s2 q
        · simp only [Int32.lt_iff_toInt_lt, Int32.le_iff_toInt_le, ← Int32.toInt_inj, Int32.toInt_add, Int32.toInt_sub, Int32.toInt_mul, Int32.toInt_neg, Int.bmod, Int32.reduceToInt] at q; omega
      · have bz := zsm_b (f := fun k => b2i (bit6 n.toInt k && bnd k l (sk_at a c.toInt (i.toInt + 1)) y.toInt)) (fun k => b2i_b _) k
        have hbit : ((n >>> (kk &&& 31)) &&& (1 : Int32)) = (1 : Int32) ↔ bit6 n.toInt k = true := by
          rw [z_nI hnn, z_nI hkk, nI_toInt (by omega)]; exact z_bit6 k hk6 nn (by omega)
        refine vc_X3_tellingYear_45 hX hk ⟨fun q => ?_, fun _ => ⟨fun q => ih2 s _ (z_inc hkk (by omega)) ?_, fun q => ⟨a, ha, l, hl, by omega, fun v1 hv1 => ⟨fun h1 => ih2 s _ (z_inc hkk (by omega)) ?_, fun h1 => ih2 _ _ (z_inc hkk (by omega)) ?_⟩⟩⟩⟩
        · simp only [Int32.lt_iff_toInt_lt, Int32.le_iff_toInt_le, ← Int32.toInt_inj, Int32.toInt_add, Int32.toInt_sub, Int32.toInt_mul, Int32.toInt_neg, Int.bmod, Int32.reduceToInt] at q; omega
        · rw [hbit] at q
          rw [zsm_s, hs]; simp [b2i, q]
        · rw [hv1, zp_0, hkk] at h1
          rw [zsm_s, hs]; simp [b2i, h1]
        · rw [hv1, zp_n, hkk] at h1
          rw [hbit] at q
          rw [zsm_s, show b2i (bit6 n.toInt k && bnd k l (sk_at a c.toInt (i.toInt + 1)) y.toInt) = 1 by simp [b2i, h1, q]]
          simp only [Int32.lt_iff_toInt_lt, Int32.le_iff_toInt_le, ← Int32.toInt_inj, Int32.toInt_add, Int32.toInt_sub, Int32.toInt_mul, Int32.toInt_neg, Int.bmod, Int32.reduceToInt]; omega
theorem ms_X3_tellingYear : zMS 4 yX3_tellingYear cX3_tellingYear 10 (some .int) sp_X3_tellingYear := by
  intro d hd
  obtain ⟨d', rfl⟩ : ∃ d', d = d' + 4 := ⟨d - 4, by omega⟩
  refine zmethod (tab := tb_X3_tellingYear) (cut := [(19, [8, 9]), (45, [])]) (by decide) (tk_X3_tellingYear d' ms_J6_bitCount_0f7a4 ms_X3_wouldBind) ?_
  intro kd as M K h
  unfold sp_X3_tellingYear at h
  split at h
  · rename_i t n c i
    exact ⟨Nat.le_of_ble_eq_true rfl, fun X hX => mt_X3_tellingYear hX t n c i M h⟩
  · exact h.elim

theorem z_i64 (x : Int32) : x.toInt64 = Int64.ofInt x.toInt := by
  have := z_rng x
  apply Int64.toInt_inj.mp
  rw [Int32.toInt_toInt64, Int64.toInt_ofInt]
  simp only [Int.bmod, Int64.size]
  omega
def mxF (h : Int64) (l : Ly) : Nat → Int64
  | 0 => h
  | w + 1 => mx (mxF h l w) (ly_f l w)
theorem mxF_5 (h : Int64) (l : Ly) : mxF h l 5 = mxL h l := rfl
set_option maxRecDepth 20000 in
theorem mt_X3_mixed {kd : Nat → Nat} {K : zK} {X : zX} (hX : ∀ (n pc : Nat) (ls : zLS) (st : List zV) (M : zM), zrun (tb_X3_mixed kd K) [(5, [6, 7, 8]), (28, [7, 8]), (47, [])] n X pc ls st M → X pc ls st M) (t : Nat) (p : Int64) (M : zM) (h : (kd t = 3) ∧ ∃ a : Sk, (RpS (M.1 t) a) ∧ ∀ v : Int64, (v = sk_mix a p) → K (some (zL v)) M) : X 0 [some (zR t 0), some (zL (p)), none, none, none, none, none, none, none] [] M := by
  obtain ⟨hk, a, ha, hK⟩ := h
  refine vc_X3_mixed_0 hX (up (N := 6) (Q := fun cn => ∀ x : Int64, ∀ c : Int32, c.toInt = cn → x = zit (fun c h => (a.1 c).foldl mxL (mx h ((a.1 c).length : Int))) cn p → X 5 [some (zR t 0), some (zL p), none, some (zL x), none, some (zI c), none, none, none] [] M) (fun x c hc hx => ?_) (fun cn hc6 ih x c hc hx => ?_) 0 (by omega) p 0 rfl rfl)
  · refine vc_X3_mixed_5 hX hk ⟨fun _ => hK _ hx, fun q => ?_⟩
    simp only [Int32.lt_iff_toInt_lt, Int32.le_iff_toInt_le, ← Int32.toInt_inj, Int32.toInt_add, Int32.toInt_sub, Int32.toInt_mul, Int32.toInt_neg, Int.bmod, Int32.reduceToInt] at q; omega
  · refine vc_X3_mixed_5 hX hk ⟨fun q => ?_, fun _ => ⟨zin_of (by rw [hk]; rfl) (by omega) (by omega), fun v1 hv1 => ?_⟩⟩
    · simp only [Int32.lt_iff_toInt_lt, Int32.le_iff_toInt_le, ← Int32.toInt_inj, Int32.toInt_add, Int32.toInt_sub, Int32.toInt_mul, Int32.toInt_neg, Int.bmod, Int32.reduceToInt] at q; omega
    · have hh := (ha.2.1 cn hc6).1
      have h4 := (ha.1.2 cn hc6).1
      rw [z_cl, hc, Int.toNat_natCast, z_i64, hh] at hv1
      have hv1' : v1 = mx x ((a.1 cn).length : Int) := hv1
      refine up (N := 4) (Q := fun k => ∀ x : Int64, ∀ i : Int32, i.toInt = k → x = ((a.1 cn).take k).foldl mxL v1 → X 28 [some (zR t 0), some (zL p), none, some (zL x), none, some (zI c), some (zI i), none, none] [] M) (fun x' i hi hx' => ?_) (fun k hk4 ih2 x' i hi hx' => ?_) 0 (by omega) v1 0 rfl rfl
      · refine vc_X3_mixed_28 hX hk ⟨fun _ => ih x' (c + 1) (z_inc hc (by omega)) ?_, fun q => ?_⟩
        · rw [hx', List.take_of_length_le h4, hv1']
          show _ = (a.1 cn).foldl mxL (mx (zit _ cn p) ((a.1 cn).length : Int))
          rw [← hx]
        · simp only [Int32.lt_iff_toInt_lt, Int32.le_iff_toInt_le, ← Int32.toInt_inj, Int32.toInt_add, Int32.toInt_sub, Int32.toInt_mul, Int32.toInt_neg, Int.bmod, Int32.reduceToInt] at q; omega
      · have next : ∀ x'' : Int64, x'' = ((a.1 cn).take (k + 1)).foldl mxL v1 → X 28 [some (zR t 0), some (zL p), none, some (zL x''), none, some (zI c), some (zI (i + 1)), none, none] [] M := fun x'' h => ih2 x'' (i + 1) (z_inc hi (by omega)) h
        refine vc_X3_mixed_28 hX hk ⟨fun q => ?_, fun _ => ⟨a, ha, fun q hq => ?_⟩⟩
        · simp only [Int32.lt_iff_toInt_lt, Int32.le_iff_toInt_le, ← Int32.toInt_inj, Int32.toInt_add, Int32.toInt_sub, Int32.toInt_mul, Int32.toInt_neg, Int.bmod, Int32.reduceToInt] at q; omega
        · rcases sk_sl ha hq with ⟨e1, e2⟩ | ⟨e1, l, e2, -, ok, hb, hq2, hc6', hget⟩
          · refine vc_X3_mixed_47 hX hk ⟨fun _ => next x' ?_, fun q => absurd e1 q⟩
            have : (a.1 cn).length ≤ k := by
              have h9 : ¬ (sk_at a c.toInt i.toInt).isSome = true := by rw [e2]; simp
              rw [sk_at_iff, hc, hi] at h9
              unfold sk_len at h9
              rw [Int.toNat_natCast] at h9
              omega
            rw [hx', List.take_of_length_le this, List.take_of_length_le (by omega)]
          · have hcn : c.toInt.toNat = cn := by omega
            have hin : i.toInt.toNat = k := by omega
            rw [hcn, hin] at hget hq2
            have ht : (a.1 cn).take (k + 1) = (a.1 cn).take k ++ [l] := by rw [List.take_add_one, hget]; rfl
            refine up (N := 5) (Q := fun n => ∀ x'' : Int64, ∀ w : Int32, w.toInt = n → x'' = mxF x' l n → X 47 [some (zR t 0), some (zL p), none, some (zL x''), none, some (zI c), some (zI i), some (zI q), some (zI w)] [] M) (fun x'' w hw hx2 => ?_) (fun n hn5 ih3 x'' w hw hx2 => ?_) 0 (by omega) x' 0 rfl rfl
            · refine vc_X3_mixed_47 hX hk ⟨fun q => absurd q e1, fun _ => ⟨fun _ => next x'' ?_, fun q => ?_⟩⟩
              · rw [hx2, mxF_5, ht, List.foldl_append, hx']; rfl
              · simp only [Int32.lt_iff_toInt_lt, Int32.le_iff_toInt_le, ← Int32.toInt_inj, Int32.toInt_add, Int32.toInt_sub, Int32.toInt_mul, Int32.toInt_neg, Int.bmod, Int32.reduceToInt] at q; omega
            · refine vc_X3_mixed_47 hX hk ⟨fun q => absurd q e1, fun _ => ⟨fun q => ?_, fun _ => ⟨a, ha, cn, k, l, hc6, hget, hq2, fun v1 hv => fun v2 hv2 => ih3 _ _ (z_inc hw (by omega)) ?_⟩⟩⟩
              · simp only [Int32.lt_iff_toInt_lt, Int32.le_iff_toInt_le, ← Int32.toInt_inj, Int32.toInt_add, Int32.toInt_sub, Int32.toInt_mul, Int32.toInt_neg, Int.bmod, Int32.reduceToInt] at q; omega
              · rw [hv2, z_i64, hv, hw, hx2]; rfl
theorem ms_X3_mixed : zMS 2 yX3_mixed cX3_mixed 9 (some .long) sp_X3_mixed := by
  intro d hd
  obtain ⟨d', rfl⟩ : ∃ d', d = d' + 2 := ⟨d - 2, by omega⟩
  refine zmethod (tab := tb_X3_mixed) (cut := [(5, [6, 7, 8]), (28, [7, 8]), (47, [])]) (by decide) (tk_X3_mixed d' ms_X7_mix ms_X3_slot ms_X3_field) ?_
  intro kd as M K h
  unfold sp_X3_mixed at h
  split at h
  · rename_i t p
    exact ⟨Nat.le_of_ble_eq_true rfl, fun X hX => mt_X3_mixed hX t p M h⟩
  · exact h.elim

