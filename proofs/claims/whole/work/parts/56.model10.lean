theorem RpW.congr {f g : Nat → Int32} {r : Rl} (h : RpW f r) (e : ∀ k, k < 915 → g k = f k) : RpW g r := by
  refine ⟨h.1.congr (fun k hk => e k (by omega)), h.seen (fun k k1 k2 _ => e k (by omega)), ⟨h.2.2.1, by rw [e 128 (by decide)]; exact h.2.2.2.1, fun i b hb => ?_⟩⟩
  have hi := (List.getElem?_eq_some_iff.mp hb).1
  have h6 := h.2.2.1
  exact (h.2.2.2.2 i b hb).congr (fun k hk => e _ (by omega))
set_option maxRecDepth 20000 in
theorem mt_X8_from {kd : Nat → Nat} {K : zK} {X : zX} (hX : ∀ (n pc : Nat) (ls : zLS) (st : List zV) (M : zM), zrun (tb_X8_from kd K) [(33, [])] n X pc ls st M → X pc ls st M) (j : Int32) (M : zM) (h : (kd 9 = 8) ∧ ∃ s : St, (RpM M s) ∧ ∀ v : Int32, (v.toInt = (ev_from s j.toInt).1) → ∀ M' : zM, (RpM M' (ev_from s j.toInt).2) → (fr0 M M') → K (some (zI v)) M') : X 0 [some (zR 9 0), some (zI (j)), none] [] M := by
  obtain ⟨hk, s, hR, hK⟩ := h
  refine vc_X8_from_0 hX hk (fun v1 h1 => ?_)
  rw [Int32.toInt_toInt64] at h1
  have h1' : v1 = zp (0 ≤ j.toInt ∧ j.toInt ≤ 1) := h1
  refine ⟨fun q => ?_, fun q v3 h3 M3 e3 => ?_⟩
  · rw [h1', zp_n] at q
    obtain ⟨n, hn⟩ : ∃ n : Nat, j.toInt = n := ⟨j.toInt.toNat, by omega⟩
    have hnc : j.toNatClampNeg = n := by rw [z_cl]; omega
    have hnt : j.toInt.toNat = n := by omega
    have hI := hR.2.1 n (by omega)
    rw [hnc]
    refine ⟨zin_of (n := 2) (by rw [hk]; rfl) (by omega) (by omega), fun q2 => ?_, fun q2 v2 h2 M2 e2 => ?_⟩
    · obtain ⟨r, hr⟩ := Option.isSome_iff_exists.mp (hI.1.mpr q2)
      have hev : ev_from s j.toInt = (1, sRo s r) := by unfold ev_from; rw [if_pos q, hnt, hr]
      rw [hev] at hK
      refine up (N := 915) (Q := fun i => ∀ (M1 : zM) (k : Int32), k.toInt = i → (∀ m, m < i → M1.1 9 1 m = M.1 9 2 (915 * n + m)) → (∃ F, M1 = zmw M 9 1 F) → X 33 [some (zR 9 0), some (zI j), some (zI k)] [] M1) (fun M1 k hk1 h0 e1 => ?_) (fun i hi ih M1 k hk1 h0 e1 => ?_) 0 (by omega) M 0 rfl (fun m hm => absurd hm (by omega)) ⟨_, zmw_sf⟩
      · refine vc_X8_from_33 hX hk ⟨fun _ => ?_, fun q => by simp only [Int32.lt_iff_toInt_lt, Int32.le_iff_toInt_le, ← Int32.toInt_inj, Int32.toInt_add, Int32.toInt_sub, Int32.toInt_mul, Int32.toInt_neg, Int.bmod, Int32.reduceToInt] at q; omega⟩
        obtain ⟨F, e1⟩ := e1
        have hF : M1.1 9 1 = F := by rw [e1, zmw_at]
        rw [hF] at h0
        have := hR.w1 ((hI.2 r hr).congr h0) e1
        exact hK _ rfl M1 this.1 this.2
      · have hkn : k.toNatClampNeg = i := by rw [z_cl]; omega
        have hq : ((915 : Int32) * j + k).toInt = 915 * n + i := by simp only [Int32.lt_iff_toInt_lt, Int32.le_iff_toInt_le, ← Int32.toInt_inj, Int32.toInt_add, Int32.toInt_sub, Int32.toInt_mul, Int32.toInt_neg, Int.bmod, Int32.reduceToInt]; omega
        have hqn : ((915 : Int32) * j + k).toNatClampNeg = 915 * n + i := by rw [z_cl]; omega
        obtain ⟨F, e1⟩ := e1
        have g2 : M1.1 9 2 = M.1 9 2 := by rw [e1, zmw_o (by decide)]
        refine vc_X8_from_33 hX hk ⟨fun q => by simp only [Int32.lt_iff_toInt_lt, Int32.le_iff_toInt_le, ← Int32.toInt_inj, Int32.toInt_add, Int32.toInt_sub, Int32.toInt_mul, Int32.toInt_neg, Int.bmod, Int32.reduceToInt] at q; omega, fun _ => ?_⟩
        rw [hkn, hqn, g2]
        refine ⟨zin_of (n := 1830) (by rw [hk]; rfl) (by omega) (by omega), zin_of (n := 915) (by rw [hk]; rfl) (by omega) (by omega), fun M3 e3 => ?_⟩
        have g3 : M3.1 9 1 = upd (M1.1 9 1) i (M.1 9 2 (915 * n + i)) := by rw [e3, zmw_at]
        refine ih M3 (k + 1) (z_inc hk1 (by omega)) (fun m hm => ?_) ⟨_, zmw_ex e1 e3⟩
        rw [g3]
        by_cases hmi : m = i
        · subst hmi; rw [upd_at]
        · rw [upd_ne hmi]; exact h0 m (by omega)
    · have hr : s.2.1 n = none := by
        cases hc : s.2.1 n with
        | none => rfl
        | some r => exact absurd q2 (hI.1.mp (by rw [hc]; rfl))
      exact mrf hR hK 1 (-3) (by decide) h2 (by unfold ev_from; rw [if_pos q, hnt, hr]) e2
  · rw [h1', zp_0] at q
    exact mrf hR hK 0 (-2) (by decide) (by rw [h3]; rfl) (by unfold ev_from; rw [if_neg q]) e3
theorem ms_X8_from : zMS 2 yX8_from cX8_from 3 (some .int) sp_X8_from := by
  intro d hd
  obtain ⟨d', rfl⟩ : ∃ d', d = d' + 2 := ⟨d - 2, by omega⟩
  refine zmethod (tab := tb_X8_from) (cut := [(33, [])]) (by decide) (tk_X8_from d' ms_X8_in ms_X8_bad ms_X8_no) ?_
  intro kd as M K h
  unfold sp_X8_from at h
  split at h
  · rename_i j
    exact ⟨Nat.le_of_ble_eq_true rfl, fun X hX => mt_X8_from hX j M h⟩
  · exact h.elim

