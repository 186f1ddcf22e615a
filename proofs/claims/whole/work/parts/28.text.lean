/-! String's own methods -/
theorem z4 {t : Nat} (h : 20 ≤ t ∧ t < 24) : t = 20 ∨ t = 21 ∨ t = 22 ∨ t = 23 := by omega
theorem zslb {t : Nat} (h : 20 ≤ t ∧ t < 24) : (zsbyt.getD (t - 20) []).length = zslen.getD (t - 20) 0 ∧ zslen.getD (t - 20) 0 ≤ 5 := by
  rcases z4 h with rfl | rfl | rfl | rfl <;> decide
theorem zch {t n : Nat} (h : 20 ≤ t ∧ t < 24) (hn : n < zslen.getD (t - 20) 0) : (narrow .char (.int ((zsbyt.getD (t - 20) []).getD n 0)) = .int ((zsbyt.getD (t - 20) []).getD n 0)) ∧ ((((zsbyt.getD (t - 20) []).getD n 0) &&& (255 : Int32)).toUInt32 % 65536).toInt32 = (zsbyt.getD (t - 20) []).getD n 0 := by
  have h5 := (zslb h).2
  have hn5 : n = 0 ∨ n = 1 ∨ n = 2 ∨ n = 3 ∨ n = 4 := by omega
  rcases z4 h with rfl | rfl | rfl | rfl <;> rcases hn5 with rfl | rfl | rfl | rfl | rfl <;> first | exact ⟨rfl, by decide⟩ | exact absurd hn (by decide)
set_option maxRecDepth 20000 in
theorem mt_J0_coder_7d493 {kd : Nat → Nat} {K : zK} {X : zX} (hX : ∀ (n pc : Nat) (ls : zLS) (st : List zV) (M : zM), zrun (tb_J0_coder_7d493 kd K) [] n X pc ls st M → X pc ls st M) (t : Nat) (M : zM) (h : (20 ≤ t ∧ t < 24) ∧ ∀ v : Int32, (v = 0) → K (some (zI v)) M) : X 0 [some (zR t 0)] [] M := by
  obtain ⟨ht, hK⟩ := h
  exact vc_J0_coder_7d493_0 hX ⟨ht, rfl, hK _ rfl⟩
theorem ms_J0_coder_7d493 : zMS 1 yJ0_coder_7d493 cJ0_coder_7d493 1 (some .byte) sp_J0_coder_7d493 := by
  intro d hd
  obtain ⟨d', rfl⟩ : ∃ d', d = d' + 1 := ⟨d - 1, by omega⟩
  refine zmethod (tab := tb_J0_coder_7d493) (cut := []) (by decide) (tk_J0_coder_7d493 d' ) ?_
  intro kd as M K h
  unfold sp_J0_coder_7d493 at h
  split at h
  · rename_i t
    exact ⟨Nat.le_of_ble_eq_true rfl, fun X hX => mt_J0_coder_7d493 hX t M h⟩
  · exact h.elim

set_option maxRecDepth 20000 in
theorem mt_J0_length_8abf5 {kd : Nat → Nat} {K : zK} {X : zX} (hX : ∀ (n pc : Nat) (ls : zLS) (st : List zV) (M : zM), zrun (tb_J0_length_8abf5 kd K) [] n X pc ls st M → X pc ls st M) (t : Nat) (M : zM) (h : (20 ≤ t ∧ t < 24) ∧ ∀ v : Int32, (v = nI (zslen.getD (t - 20) 0)) → K (some (zI v)) M) : X 0 [some (zR t 0)] [] M := by
  obtain ⟨ht, hK⟩ := h
  refine vc_J0_length_8abf5_0 hX ⟨ht, ht, ht, fun v1 h1 => hK _ ?_⟩
  subst h1
  rcases z4 ht with rfl | rfl | rfl | rfl <;> decide
theorem ms_J0_length_8abf5 : zMS 2 yJ0_length_8abf5 cJ0_length_8abf5 1 (some .int) sp_J0_length_8abf5 := by
  intro d hd
  obtain ⟨d', rfl⟩ : ∃ d', d = d' + 2 := ⟨d - 2, by omega⟩
  refine zmethod (tab := tb_J0_length_8abf5) (cut := []) (by decide) (tk_J0_length_8abf5 d' ms_J0_coder_7d493) ?_
  intro kd as M K h
  unfold sp_J0_length_8abf5 at h
  split at h
  · rename_i t
    exact ⟨Nat.le_of_ble_eq_true rfl, fun X hX => mt_J0_length_8abf5 hX t M h⟩
  · exact h.elim

set_option maxRecDepth 20000 in
theorem mt_J0_isLatin1_aae02 {kd : Nat → Nat} {K : zK} {X : zX} (hX : ∀ (n pc : Nat) (ls : zLS) (st : List zV) (M : zM), zrun (tb_J0_isLatin1_aae02 kd K) [] n X pc ls st M → X pc ls st M) (t : Nat) (M : zM) (h : (20 ≤ t ∧ t < 24) ∧ ∀ v : Int32, (v = 1) → K (some (zI v)) M) : X 0 [some (zR t 0)] [] M := by
  obtain ⟨ht, hK⟩ := h
  exact vc_J0_isLatin1_aae02_0 hX ⟨ht, hK _ rfl⟩
theorem ms_J0_isLatin1_aae02 : zMS 1 yJ0_isLatin1_aae02 cJ0_isLatin1_aae02 1 (some .boolean) sp_J0_isLatin1_aae02 := by
  intro d hd
  obtain ⟨d', rfl⟩ : ∃ d', d = d' + 1 := ⟨d - 1, by omega⟩
  refine zmethod (tab := tb_J0_isLatin1_aae02) (cut := []) (by decide) (tk_J0_isLatin1_aae02 d' ) ?_
  intro kd as M K h
  unfold sp_J0_isLatin1_aae02 at h
  split at h
  · rename_i t
    exact ⟨Nat.le_of_ble_eq_true rfl, fun X hX => mt_J0_isLatin1_aae02 hX t M h⟩
  · exact h.elim

set_option maxRecDepth 20000 in
theorem mt_J3_checkIndex_8e157 {kd : Nat → Nat} {K : zK} {X : zX} (hX : ∀ (n pc : Nat) (ls : zLS) (st : List zV) (M : zM), zrun (tb_J3_checkIndex_8e157 kd K) [] n X pc ls st M → X pc ls st M) (i : Int32) (n : Int32) (f : zV) (M : zM) (h : (f = zN ∨ f = zR 30 0) ∧ (0 ≤ i.toInt ∧ i.toInt < n.toInt) ∧ ∀ v : Int32, (v = i) → K (some (zI v)) M) : X 0 [some (zI (i)), some (zI (n)), some (f)] [] M := by
  obtain ⟨_, hi, hK⟩ := h
  refine vc_J3_checkIndex_8e157_0 hX ⟨fun q => ?_, fun _ => ⟨fun _ => hK _ rfl, fun q => ?_⟩⟩
  · simp only [Int32.lt_iff_toInt_lt, Int32.le_iff_toInt_le, ← Int32.toInt_inj, Int32.toInt_add, Int32.toInt_sub, Int32.toInt_mul, Int32.toInt_neg, Int.bmod, Int32.reduceToInt] at q; omega
  · simp only [Int32.lt_iff_toInt_lt, Int32.le_iff_toInt_le, ← Int32.toInt_inj, Int32.toInt_add, Int32.toInt_sub, Int32.toInt_mul, Int32.toInt_neg, Int.bmod, Int32.reduceToInt] at q; omega
theorem ms_J3_checkIndex_8e157 : zMS 1 yJ3_checkIndex_8e157 cJ3_checkIndex_8e157 3 (some .int) sp_J3_checkIndex_8e157 := by
  intro d hd
  obtain ⟨d', rfl⟩ : ∃ d', d = d' + 1 := ⟨d - 1, by omega⟩
  refine zmethod (tab := tb_J3_checkIndex_8e157) (cut := []) (by decide) (tk_J3_checkIndex_8e157 d' ) ?_
  intro kd as M K h
  unfold sp_J3_checkIndex_8e157 at h
  split at h
  · rename_i i n f
    rcases id h.1 with rfl | rfl <;> exact ⟨Nat.le_of_ble_eq_true rfl, fun X hX => mt_J3_checkIndex_8e157 hX i n _ M h⟩
  · exact h.elim

set_option maxRecDepth 20000 in
theorem mt_J0_checkIndex_df160 {kd : Nat → Nat} {K : zK} {X : zX} (hX : ∀ (n pc : Nat) (ls : zLS) (st : List zV) (M : zM), zrun (tb_J0_checkIndex_df160 kd K) [] n X pc ls st M → X pc ls st M) (i : Int32) (n : Int32) (M : zM) (h : (0 ≤ i.toInt ∧ i.toInt < n.toInt) ∧ K none M) : X 0 [some (zI (i)), some (zI (n))] [] M := by
  obtain ⟨hi, hK⟩ := h
  exact vc_J0_checkIndex_df160_0 hX ⟨⟨Or.inl rfl, hi, fun _ _ => hK⟩, ⟨Or.inr rfl, hi, fun _ _ => hK⟩⟩
theorem ms_J0_checkIndex_df160 : zMS 2 yJ0_checkIndex_df160 cJ0_checkIndex_df160 2 none sp_J0_checkIndex_df160 := by
  intro d hd
  obtain ⟨d', rfl⟩ : ∃ d', d = d' + 2 := ⟨d - 2, by omega⟩
  refine zmethod (tab := tb_J0_checkIndex_df160) (cut := []) (by decide) (tk_J0_checkIndex_df160 d' ms_J3_checkIndex_8e157) ?_
  intro kd as M K h
  unfold sp_J0_checkIndex_df160 at h
  split at h
  · rename_i i n
    exact ⟨Nat.le_of_ble_eq_true rfl, fun X hX => mt_J0_checkIndex_df160 hX i n M h⟩
  · exact h.elim

set_option maxRecDepth 20000 in
theorem mt_J1_charAt_3b067 {kd : Nat → Nat} {K : zK} {X : zX} (hX : ∀ (n pc : Nat) (ls : zLS) (st : List zV) (M : zM), zrun (tb_J1_charAt_3b067 kd K) [] n X pc ls st M → X pc ls st M) (t o : Nat) (i : Int32) (M : zM) (h : (20 ≤ t ∧ t < 24) ∧ (o = 1) ∧ (0 ≤ i.toInt ∧ i.toInt < (zslen.getD (t - 20) 0 : Nat)) ∧ ∀ v : Int32, (v = (zsbyt.getD (t - 20) []).getD i.toInt.toNat 0) → K (some (zI v)) M) : X 0 [some (zR t o), some (zI (i))] [] M := by
  obtain ⟨ht, ho, hi, hK⟩ := h
  subst ho
  have h5 := (zslb ht).2
  obtain ⟨n, hn⟩ : ∃ n : Nat, i.toInt = n := ⟨i.toInt.toNat, by omega⟩
  have hnc : i.toNatClampNeg = n := by rw [z_cl]; omega
  have hz := zch (n := n) ht (by omega)
  refine vc_J1_charAt_3b067_0 hX ⟨rfl, ht, ⟨hi.1, ?_⟩, rfl, ht, vp_in_iff.mpr hi, ?_, ?_⟩
  · have := nI_toInt (n := zslen.getD (t - 20) 0) (by omega)
    unfold nI at this
    omega
  · rw [hnc, hz.2]; exact hz.1
  · rw [hnc, hz.2]; exact hK _ (by rw [hn]; rfl)
theorem ms_J1_charAt_3b067 : zMS 3 yJ1_charAt_3b067 cJ1_charAt_3b067 2 (some .char) sp_J1_charAt_3b067 := by
  intro d hd
  obtain ⟨d', rfl⟩ : ∃ d', d = d' + 3 := ⟨d - 3, by omega⟩
  refine zmethod (tab := tb_J1_charAt_3b067) (cut := []) (by decide) (tk_J1_charAt_3b067 d' ms_J0_checkIndex_df160) ?_
  intro kd as M K h
  unfold sp_J1_charAt_3b067 at h
  split at h
  · rename_i t o i
    exact ⟨Nat.le_of_ble_eq_true rfl, fun X hX => mt_J1_charAt_3b067 hX t o i M h⟩
  · exact h.elim

theorem ms_J2_charAt_3b067 : zMS 1 yJ2_charAt_3b067 cJ2_charAt_3b067 2 (some .char) sp_J2_charAt_3b067 := by
  intro d hd l D cy ad bl as M K sz h
  unfold sp_J2_charAt_3b067 at h
  split at h
  · exact h.1.elim
  · exact h.elim
set_option maxRecDepth 20000 in
theorem mt_J0_charAt_5068e {kd : Nat → Nat} {K : zK} {X : zX} (hX : ∀ (n pc : Nat) (ls : zLS) (st : List zV) (M : zM), zrun (tb_J0_charAt_5068e kd K) [] n X pc ls st M → X pc ls st M) (t : Nat) (i : Int32) (M : zM) (h : (20 ≤ t ∧ t < 24) ∧ (0 ≤ i.toInt ∧ i.toInt < (zslen.getD (t - 20) 0 : Nat)) ∧ ∀ v : Int32, (v = (zsbyt.getD (t - 20) []).getD i.toInt.toNat 0) → K (some (zI v)) M) : X 0 [some (zR t 0), some (zI (i))] [] M := by
  obtain ⟨ht, hi, hK⟩ := h
  refine vc_J0_charAt_5068e_0 hX ⟨ht, fun v1 h1 => ⟨fun q => ?_, fun _ => ⟨ht, ht, rfl, hi, fun v3 h3 => ⟨?_, hK _ h3⟩⟩⟩⟩
  · subst h1; exact absurd q (by decide)
  · rw [h3]
    exact (zch (n := i.toInt.toNat) ht (by omega)).1
theorem ms_J0_charAt_5068e : zMS 4 yJ0_charAt_5068e cJ0_charAt_5068e 2 (some .char) sp_J0_charAt_5068e := by
  intro d hd
  obtain ⟨d', rfl⟩ : ∃ d', d = d' + 4 := ⟨d - 4, by omega⟩
  refine zmethod (tab := tb_J0_charAt_5068e) (cut := []) (by decide) (tk_J0_charAt_5068e d' ms_J0_isLatin1_aae02 ms_J1_charAt_3b067 ms_J2_charAt_3b067) ?_
  intro kd as M K h
  unfold sp_J0_charAt_5068e at h
  split at h
  · rename_i t i
    exact ⟨Nat.le_of_ble_eq_true rfl, fun X hX => mt_J0_charAt_5068e hX t i M h⟩
  · exact h.elim

/-! tokens -/
theorem zf_at {S : zB} {k : Nat} {x : Int32} : zrw S 0 (upd (S 0) k x) 0 k = x := by simp [zrw, upd]
theorem zf_ne {S : zB} {j k : Nat} {x : Int32} (h : j ≠ k) : zrw S 0 (upd (S 0) k x) 0 j = S 0 j := by simp [zrw, upd, h]
theorem RpB.put {S : zB} {b : List Int} {j : Nat} {x : Int32} (h : RpB S b) (hj : j ≠ 1) : RpB (zrw S 0 (upd (S 0) j x)) b := by
  refine ⟨h.1, ?_, fun i z hz => ⟨(h.2.2 i z hz).1, ?_⟩⟩
  · rw [zf_ne (fun e => hj e.symm)]; exact h.2.1
  · rw [zrw_ne (by decide)]; exact (h.2.2 i z hz).2
theorem RpB.lo {S : zB} {b : List Int} (h : RpB S b) {p : Nat} (hp : p < b.length) : (0 ≤ atB b p ∧ atB b p ≤ 127) ∧ (S 1 p).toInt = atB b p := by
  have hg : b[p]? = some (b[p]'hp) := List.getElem?_eq_getElem hp
  have := h.2.2 p _ hg
  unfold atB
  rw [hg]
  exact this
theorem atB_out {b : List Int} {p : Nat} (h : b.length ≤ p) : atB b p = -1 := by
  unfold atB
  rw [List.getElem?_eq_none h]
  rfl
theorem RpB.in {S : zB} {b : List Int} (h : RpB S b) {p : Nat} : atB b p = -1 ↔ b.length ≤ p := by
  constructor
  · intro e
    by_cases hp : p < b.length
    · have := (h.lo hp).1; omega
    · omega
  · exact atB_out
theorem skW_ge {P : Int → Bool} {b : List Int} {p : Nat} : p ≤ skW P b p := by unfold skW; omega
theorem skW_le {P : Int → Bool} {b : List Int} {p : Nat} (h : p ≤ b.length) : skW P b p ≤ b.length := by
  unfold skW
  have h1 : ((b.drop p).takeWhile P).length ≤ (b.drop p).length := List.Sublist.length_le (List.takeWhile_sublist P)
  rw [List.length_drop] at h1
  omega
theorem atB_drop {b : List Int} {p : Nat} (h : p < b.length) : b.drop p = atB b p :: b.drop (p + 1) := by
  rw [List.drop_eq_getElem_cons h]
  unfold atB
  rw [List.getElem?_eq_getElem h]
  rfl
theorem skW_stop {P : Int → Bool} {b : List Int} {p : Nat} (h : P (atB b p) = false) : skW P b p = p := by
  unfold skW
  by_cases hp : p < b.length
  · rw [atB_drop hp, List.takeWhile_cons, h]; simp
  · rw [List.drop_eq_nil_of_le (by omega)]; simp
theorem skW_end {P : Int → Bool} {b : List Int} {p : Nat} (h : b.length ≤ p) : skW P b p = p := by
  unfold skW
  rw [List.drop_eq_nil_of_le h]; simp
theorem skW_step {P : Int → Bool} {b : List Int} {p : Nat} (hp : p < b.length) (h : P (atB b p) = true) : skW P b p = skW P b (p + 1) := by
  unfold skW
  rw [atB_drop hp, List.takeWhile_cons, h]
  simp
  omega
theorem nar_b {c : Int32} (h : 0 ≤ c.toInt ∧ c.toInt ≤ 127) : (vp_nar .byte c.toInt8.toInt32).toInt = c.toInt := by
  have hc : c = nI c.toInt.toNat := z_nI (by omega)
  have hn : c.toInt.toNat < 128 := by omega
  generalize c.toInt.toNat = n at hc hn
  subst hc
  revert n
  decide +kernel
set_option maxRecDepth 20000 in
theorem mt_X5_add {kd : Nat → Nat} {K : zK} {X : zX} (hX : ∀ (n pc : Nat) (ls : zLS) (st : List zV) (M : zM), zrun (tb_X5_add kd K) [] n X pc ls st M → X pc ls st M) (t : Nat) (c : Int32) (M : zM) (h : (kd t = 7) ∧ ∃ b : List Int, (RpB (M.1 t) b) ∧ (b.length < 150) ∧ (0 ≤ c.toInt ∧ c.toInt ≤ 127) ∧ ∀ v : Int32, (v.toInt = (b.length : Int) + 1) → ∀ S' : zB, (RpB S' (b ++ [c.toInt])) → ∀ M' : zM, (M' = zbs M t S') → K (some (zI v)) M') : X 0 [some (zR t 0), some (zI (c))] [] M := by
  obtain ⟨hk, b, hB, hlt, hc, hK⟩ := h
  have hs := hB.2.1
  refine vc_X5_add_0 hX hk ⟨fun q => ?_, fun _ => ⟨fun q => ?_, fun _ => ⟨zin_of (n := 150) (by rw [hk]; rfl) (by omega) (by omega), fun M1 e1 M2 e2 => ?_⟩⟩⟩
  · simp only [Int32.lt_iff_toInt_lt, Int32.le_iff_toInt_le, ← Int32.toInt_inj, Int32.toInt_add, Int32.toInt_sub, Int32.toInt_mul, Int32.toInt_neg, Int.bmod, Int32.reduceToInt] at q; omega
  · simp only [Int32.lt_iff_toInt_lt, Int32.le_iff_toInt_le, ← Int32.toInt_inj, Int32.toInt_add, Int32.toInt_sub, Int32.toInt_mul, Int32.toInt_neg, Int.bmod, Int32.reduceToInt] at q; omega
  · rw [zmw_bs] at e1 e2
    subst e1
    simp only [zbs_at, zbs_bs] at e2
    rw [z_cl, hs, Int.toNat_natCast] at e2
    have h2 : (M2.1 t 0 1).toInt = (b.length : Int) + 1 := by
      rw [e2, zbs_at, zf_at, zrw_ne (by decide)]
      exact z_inc hs (by omega)
    have hby : (vp_nar .byte c.toInt8.toInt32).toInt = c.toInt := nar_b hc
    refine hK _ h2 _ ⟨by rw [List.length_append]; simp; omega, ?_, fun i z hz => ?_⟩ M2 e2
    · rw [e2, zbs_at] at h2
      rw [h2, List.length_append]
      rfl
    · rw [zrw_ne (by decide), zrw_at]
      by_cases hi : i = b.length
      · subst hi
        rw [List.getElem?_append_right (Nat.le_refl _)] at hz
        simp at hz
        subst hz
        simp only [upd, if_true]
        exact ⟨hc, hby⟩
      · have hi2 := (List.getElem?_eq_some_iff.mp hz).1
        simp at hi2
        rw [List.getElem?_append_left (by omega)] at hz
        simp only [upd, if_neg hi]
        exact hB.2.2 i z hz
theorem ms_X5_add : zMS 1 yX5_add cX5_add 2 (some .int) sp_X5_add := by
  intro d hd
  obtain ⟨d', rfl⟩ : ∃ d', d = d' + 1 := ⟨d - 1, by omega⟩
  refine zmethod (tab := tb_X5_add) (cut := []) (by decide) (tk_X5_add d' ) ?_
  intro kd as M K h
  unfold sp_X5_add at h
  split at h
  · rename_i t c
    exact ⟨Nat.le_of_ble_eq_true rfl, fun X hX => mt_X5_add hX t c M h⟩
  · exact h.elim

set_option maxRecDepth 20000 in
theorem mt_X5_empty {kd : Nat → Nat} {K : zK} {X : zX} (hX : ∀ (n pc : Nat) (ls : zLS) (st : List zV) (M : zM), zrun (tb_X5_empty kd K) [] n X pc ls st M → X pc ls st M) (t : Nat) (M : zM) (h : (kd t = 7) ∧ ∃ b : List Int, (RpB (M.1 t) b) ∧ ∀ v : Int32, (v.toInt = (b.length : Int)) → ∀ S' : zB, (RpB S' []) → ∀ M' : zM, (M' = zbs M t S') → K (some (zI v)) M') : X 0 [some (zR t 0), none] [] M := by
  obtain ⟨hk, b, hB, hK⟩ := h
  refine vc_X5_empty_0 hX hk (fun M1 e1 => ?_)
  rw [zmw_bs] at e1
  exact hK _ hB.2.1 _ ⟨by simp, by rw [zf_at]; rfl, fun i z hz => by simp at hz⟩ M1 e1
theorem ms_X5_empty : zMS 1 yX5_empty cX5_empty 2 (some .int) sp_X5_empty := by
  intro d hd
  obtain ⟨d', rfl⟩ : ∃ d', d = d' + 1 := ⟨d - 1, by omega⟩
  refine zmethod (tab := tb_X5_empty) (cut := []) (by decide) (tk_X5_empty d' ) ?_
  intro kd as M K h
  unfold sp_X5_empty at h
  split at h
  · rename_i t
    exact ⟨Nat.le_of_ble_eq_true rfl, fun X hX => mt_X5_empty hX t M h⟩
  · exact h.elim

set_option maxRecDepth 20000 in
theorem mt_X5_peek {kd : Nat → Nat} {K : zK} {X : zX} (hX : ∀ (n pc : Nat) (ls : zLS) (st : List zV) (M : zM), zrun (tb_X5_peek kd K) [] n X pc ls st M → X pc ls st M) (t : Nat) (M : zM) (h : (kd t = 7) ∧ ∃ b : List Int, (RpB (M.1 t) b) ∧ ∃ p : Nat, ((M.1 t 0 2).toInt = (p : Int)) ∧ (p ≤ b.length) ∧ ∀ v : Int32, (v.toInt = atB b p) → K (some (zI v)) M) : X 0 [some (zR t 0)] [] M := by
  obtain ⟨hk, b, hB, p, hp, hle, hK⟩ := h
  have hs := hB.2.1
  have h1 := hB.1
  have hnc : (M.1 t 0 2).toNatClampNeg = p := by rw [z_cl]; omega
  refine vc_X5_peek_0 hX hk ⟨fun q => ?_, fun _ => ⟨fun q => hK _ ?_, fun q => ⟨fun q2 => ?_, fun _ => ⟨zin_of (n := 150) (by rw [hk]; rfl) (by omega) (by simp only [Int32.lt_iff_toInt_lt, Int32.le_iff_toInt_le, ← Int32.toInt_inj, Int32.toInt_add, Int32.toInt_sub, Int32.toInt_mul, Int32.toInt_neg, Int.bmod, Int32.reduceToInt] at q; omega), hK _ ?_⟩⟩⟩⟩
  · simp only [Int32.lt_iff_toInt_lt, Int32.le_iff_toInt_le, ← Int32.toInt_inj, Int32.toInt_add, Int32.toInt_sub, Int32.toInt_mul, Int32.toInt_neg, Int.bmod, Int32.reduceToInt] at q; omega
  · simp only [Int32.lt_iff_toInt_lt, Int32.le_iff_toInt_le, ← Int32.toInt_inj, Int32.toInt_add, Int32.toInt_sub, Int32.toInt_mul, Int32.toInt_neg, Int.bmod, Int32.reduceToInt] at q
    rw [atB_out (by omega)]
    rfl
  · simp only [Int32.lt_iff_toInt_lt, Int32.le_iff_toInt_le, ← Int32.toInt_inj, Int32.toInt_add, Int32.toInt_sub, Int32.toInt_mul, Int32.toInt_neg, Int.bmod, Int32.reduceToInt] at q q2; omega
  · simp only [Int32.lt_iff_toInt_lt, Int32.le_iff_toInt_le, ← Int32.toInt_inj, Int32.toInt_add, Int32.toInt_sub, Int32.toInt_mul, Int32.toInt_neg, Int.bmod, Int32.reduceToInt] at q
    rw [hnc]
    exact (hB.lo (by omega)).2
theorem ms_X5_peek : zMS 1 yX5_peek cX5_peek 1 (some .int) sp_X5_peek := by
  intro d hd
  obtain ⟨d', rfl⟩ : ∃ d', d = d' + 1 := ⟨d - 1, by omega⟩
  refine zmethod (tab := tb_X5_peek) (cut := []) (by decide) (tk_X5_peek d' ) ?_
  intro kd as M K h
  unfold sp_X5_peek at h
  split at h
  · rename_i t
    exact ⟨Nat.le_of_ble_eq_true rfl, fun X hX => mt_X5_peek hX t M h⟩
  · exact h.elim

set_option maxRecDepth 20000 in
theorem mt_X5_isLetter {kd : Nat → Nat} {K : zK} {X : zX} (hX : ∀ (n pc : Nat) (ls : zLS) (st : List zV) (M : zM), zrun (tb_X5_isLetter kd K) [] n X pc ls st M → X pc ls st M) (z : Int32) (M : zM) (h : ∀ v : Int32, (v = zp (isLt z.toInt = true)) → K (some (zI v)) M) : X 0 [some (zI (z))] [] M := by
  refine vc_X5_isLetter_0 hX ⟨fun q => h _ (zp_f ?_).symm, fun q => ⟨fun q2 => h _ (zp_f ?_).symm, fun q2 => h _ (zp_t ?_).symm⟩⟩ <;> unfold isLt <;> rw [decide_eq_true_eq] <;> simp only [Int32.lt_iff_toInt_lt, Int32.le_iff_toInt_le, ← Int32.toInt_inj, Int32.toInt_add, Int32.toInt_sub, Int32.toInt_mul, Int32.toInt_neg, Int.bmod, Int32.reduceToInt] at * <;> omega
theorem ms_X5_isLetter : zMS 1 yX5_isLetter cX5_isLetter 1 (some .boolean) sp_X5_isLetter := by
  intro d hd
  obtain ⟨d', rfl⟩ : ∃ d', d = d' + 1 := ⟨d - 1, by omega⟩
  refine zmethod (tab := tb_X5_isLetter) (cut := []) (by decide) (tk_X5_isLetter d' ) ?_
  intro kd as M K h
  unfold sp_X5_isLetter at h
  split at h
  · rename_i z
    exact ⟨Nat.le_of_ble_eq_true rfl, fun X hX => mt_X5_isLetter hX z M h⟩
  · exact h.elim

set_option maxRecDepth 20000 in
theorem mt_X5_isFigure {kd : Nat → Nat} {K : zK} {X : zX} (hX : ∀ (n pc : Nat) (ls : zLS) (st : List zV) (M : zM), zrun (tb_X5_isFigure kd K) [] n X pc ls st M → X pc ls st M) (z : Int32) (M : zM) (h : ∀ v : Int32, (v = zp (isFg z.toInt = true)) → K (some (zI v)) M) : X 0 [some (zI (z))] [] M := by
  refine vc_X5_isFigure_0 hX ⟨fun q => h _ (zp_f ?_).symm, fun q => ⟨fun q2 => h _ (zp_f ?_).symm, fun q2 => h _ (zp_t ?_).symm⟩⟩ <;> unfold isFg <;> rw [decide_eq_true_eq] <;> simp only [Int32.lt_iff_toInt_lt, Int32.le_iff_toInt_le, ← Int32.toInt_inj, Int32.toInt_add, Int32.toInt_sub, Int32.toInt_mul, Int32.toInt_neg, Int.bmod, Int32.reduceToInt] at * <;> omega
theorem ms_X5_isFigure : zMS 1 yX5_isFigure cX5_isFigure 1 (some .boolean) sp_X5_isFigure := by
  intro d hd
  obtain ⟨d', rfl⟩ : ∃ d', d = d' + 1 := ⟨d - 1, by omega⟩
  refine zmethod (tab := tb_X5_isFigure) (cut := []) (by decide) (tk_X5_isFigure d' ) ?_
  intro kd as M K h
  unfold sp_X5_isFigure at h
  split at h
  · rename_i z
    exact ⟨Nat.le_of_ble_eq_true rfl, fun X hX => mt_X5_isFigure hX z M h⟩
  · exact h.elim

