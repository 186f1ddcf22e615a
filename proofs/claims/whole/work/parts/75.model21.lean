theorem upd_sf {f : Nat → Int32} {k : Nat} : upd f k (f k) = f := by
  funext j
  by_cases h : j = k
  · subst h; rw [upd_at]
  · rw [upd_ne h]
def lk (M M1 : zM) : Prop := M1 = zmw M 9 0 (M1.1 9 0) ∧ ∀ j, j ≤ 16 → M1.1 9 0 j = M.1 9 0 j
theorem lk.rf {M : zM} : lk M M := ⟨zmw_sf, fun _ _ => rfl⟩
theorem lk.put {M M1 M2 : zM} {j : Nat} {x : Int32} (h : lk M M1) (hj : 17 ≤ j) (e : M2 = zmw M1 9 0 (upd (M1.1 9 0) j x)) : lk M M2 ∧ M2.1 9 0 = upd (M1.1 9 0) j x := by
  have g : M2.1 9 0 = upd (M1.1 9 0) j x := by rw [e, zmw_at]
  refine ⟨⟨?_, fun i hi => by rw [g, upd_ne (by omega), h.2 i hi]⟩, g⟩
  rw [g]
  exact zmw_ex h.1 e
theorem RpY.lo {M : zM} {b : List Int} (h : RpY M b) {p : Nat} (hp : p < b.length) : (0 ≤ atB b p ∧ atB b p ≤ 127) ∧ (M.1 9 9 p).toInt = atB b p := by
  have hg : b[p]? = some (b[p]'hp) := List.getElem?_eq_getElem hp
  have := h.2.2 p _ hg
  unfold atB
  rw [hg]
  exact this
theorem tokS_lt {b : List Int} {s : Nat} (h : isLt (atB b s) = true) : tokS b s = (s, 4, 0, skW isLt b s) := by unfold tokS; rw [if_pos h]
theorem tokS_fg {b : List Int} {s : Nat} (h : isLt (atB b s) = false) (h2 : isFg (atB b s) = true) : tokS b s = (s, if skW isFg b s - s ≤ 2 then 3 else 1, dig2 b s (skW isFg b s), skW isFg b s) := by unfold tokS; rw [if_neg (by rw [h]; decide), if_pos h2]
theorem tokS_end {b : List Int} {s : Nat} (h : atB b s = -1) : tokS b s = (s, 0, 0, s) := by unfold tokS; rw [h]; rfl
theorem tokS_oth {b : List Int} {s : Nat} (h : isLt (atB b s) = false) (h2 : isFg (atB b s) = false) (h3 : ¬ atB b s = -1) : tokS b s = (s, if atB b s = 59 then 2 else 1, 0, s + 1) := by unfold tokS; rw [if_neg (by rw [h]; decide), if_neg (by rw [h2]; decide), if_neg h3]
set_option maxRecDepth 20000 in
theorem mt_X8_lookAt {kd : Nat → Nat} {K : zK} {X : zX} (hX : ∀ (n pc : Nat) (ls : zLS) (st : List zV) (M : zM), zrun (tb_X8_lookAt kd K) [(5, [2, 3, 4]), (43, [2, 3, 4]), (136, [4]), (218, []), (274, [])] n X pc ls st M → X pc ls st M) (x : Int32) (M : zM) (h : (kd 9 = 8) ∧ ∃ b : List Int, (RpY M b) ∧ ∃ p : Nat, (x.toInt = (p : Int) ∧ p ≤ b.length) ∧ ∀ f : Nat → Int32, (RpT2 f b (tok b p) ∧ ∀ j9, j9 ≤ 16 → f j9 = M.1 9 0 j9) → ∀ M' : zM, (M' = zmw M 9 0 f) → K none M') : X 0 [some (zR 9 0), some (zI (x)), none, none, none] [] M := by
  obtain ⟨hk, b, hY, p, hp, hK⟩ := h
  have h150 := hY.1
  have hlen := hY.2.1
  obtain ⟨s, hs⟩ : ∃ s, skW isBk b p = s := ⟨_, rfl⟩
  have htok : tok b p = tokS b s := by unfold tok; rw [hs]
  have hsl : s ≤ b.length := by rw [← hs]; exact skW_le hp.2
  rw [htok] at hK
  have fin : ∀ M1 : zM, lk M M1 → RpT2 (M1.1 9 0) b (tokS b s) → K none M1 := fun M1 h t => hK (M1.1 9 0) ⟨t, h.2⟩ M1 h.1
  have y16 : ∀ M1 : zM, lk M M1 → (M1.1 9 0 16).toInt = (b.length : Int) := fun M1 h => by rw [h.2 16 (by omega)]; exact hlen
  have y9 : ∀ M1 : zM, lk M M1 → M1.1 9 9 = M.1 9 9 := fun M1 h => by rw [h.1, zmw_o (by decide)]
  have f274 : ∀ (M1 : zM) (c g k : Int32), lk M M1 → RpT2 (M1.1 9 0) b (tokS b s) → ¬ M1.1 9 0 19 = 2 → X 274 [some (zR 9 0), some (zI x), some (zI c), some (zI g), some (zI k)] [] M1 := fun M1 c g k hl ht h2 => vc_X8_lookAt_274 hX hk ⟨fun _ M2 e2 => (by
    obtain ⟨l2, g2⟩ := hl.put (by omega) e2
    exact fin M2 l2 (by rw [g2, upd_sf]; exact ht)), fun q => absurd q h2⟩
  have f218 : ∀ (M1 : zM) (c g : Int32), lk M M1 → RpT2 (M1.1 9 0) b (tokS b s) → ¬ M1.1 9 0 19 = 2 → X 218 [some (zR 9 0), some (zI x), some (zI c), some (zI g), some (zI ((0 : Int32)))] [] M1 := fun M1 c g hl ht h2 => vc_X8_lookAt_218 hX hk ⟨fun _ => f274 M1 c g _ hl ht h2, fun _ => ⟨fun _ => f274 M1 c g _ hl ht h2, fun _ => ⟨fun _ => f274 M1 c g _ hl ht h2, fun q => absurd q h2⟩⟩⟩
  have n218 : s < b.length → isLt (atB b s) = false → isFg (atB b s) = true → ∀ (M1 : zM) (c g : Int32), lk M M1 → (M1.1 9 0 17).toInt = s → (M1.1 9 0 18).toInt = (skW isFg b s : Int) - s → M1.1 9 0 19 = 2 → (M1.1 9 0 20).toInt = 0 → X 218 [some (zR 9 0), some (zI x), some (zI c), some (zI g), some (zI ((0 : Int32)))] [] M1 := by
    intro hsb hlt hfg M1 c g hl h17 h18 h19 h20
    have he1 : s + 1 ≤ skW isFg b s := by rw [skW_step hsb hfg]; exact skW_ge
    have hel : skW isFg b s ≤ b.length := skW_le hsl
    have hT := tokS_fg hlt hfg
    obtain ⟨e, hee⟩ : ∃ e, skW isFg b s = e := ⟨_, rfl⟩
    rw [hee] at he1 hel hT h18
    have n274 : ∀ (M1 : zM) (k : Int32), lk M M1 → (M1.1 9 0 17).toInt = s → (M1.1 9 0 18).toInt = (e : Int) - s → M1.1 9 0 19 = 2 → (e - s ≤ 2 → (M1.1 9 0 20).toInt = dig2 b s e) → X 274 [some (zR 9 0), some (zI x), some (zI c), some (zI g), some (zI k)] [] M1 := by
      intro M1 k hl h17 h18 h19 h20
      refine vc_X8_lookAt_274 hX hk ⟨fun q => absurd h19 q, fun _ => ⟨fun q2 M2 e2 => ?_, fun q2 M3 e3 => ?_⟩⟩
      · obtain ⟨l2, g2⟩ := hl.put (by omega) e2
        rw [upd_sf] at g2
        rw [Int32.le_iff_toInt_le, h18] at q2
        have q2' : (e : Int) - s ≤ 2 := q2
        refine fin M2 l2 ?_
        rw [g2, hT, if_pos (by omega)]
        exact ⟨h17, h18, by rw [h19]; rfl, fun _ => h20 (by omega), by show s ≤ e; omega, hel, by dsimp only; omega, by dsimp only; omega⟩
      · obtain ⟨l3, g3⟩ := hl.put (by omega) e3
        rw [Int32.le_iff_toInt_le, h18] at q2
        have q2' : ¬ (e : Int) - s ≤ 2 := q2
        refine fin M3 l3 ?_
        rw [g3, hT, if_neg (by omega)]
        exact ⟨by rw [upd_ne (by decide)]; exact h17, by rw [upd_ne (by decide)]; exact h18, by rw [upd_at]; rfl, fun q => absurd q (by show ¬ (1 : Int) = 3; decide), by show s ≤ e; omega, hel, by dsimp only; omega, by dsimp only; omega⟩
    have lo0 := hY.lo hsb
    have hfg' := isFg_iff.mp hfg
    have c0 : ((M1.1 9 0 17) + (0 : Int32)).toNatClampNeg = s := by rw [Int32.add_zero, z_cl]; omega
    refine vc_X8_lookAt_218 hX hk ⟨fun q => ?_, fun _ => ⟨fun q => absurd q (by decide), fun _ => ⟨fun q => absurd h19 q, fun _ => ⟨zin_of (n := 150) (by rw [hk]; rfl) (by rw [Int32.add_zero]; omega) (by rw [Int32.add_zero]; omega), fun M2 e2 => ?_⟩⟩⟩⟩
    · rw [Int32.le_iff_toInt_le, h18] at q
      have q' : (e : Int) - s ≤ 0 := q
      omega
    · rw [c0, y9 M1 hl] at e2
      obtain ⟨l2, g2⟩ := hl.put (by omega) e2
      have v2 : (M2.1 9 0 20).toInt = atB b s - 48 := by
        have hm := lo0.2
        rw [g2, upd_at]
        simp only [Int32.lt_iff_toInt_lt, Int32.le_iff_toInt_le, ← Int32.toInt_inj, Int32.toInt_add, Int32.toInt_sub, Int32.toInt_mul, Int32.toInt_neg, Int.bmod, Int32.reduceToInt]; omega
      have k17 : (M2.1 9 0 17).toInt = s := by rw [g2, upd_ne (by decide)]; exact h17
      have k18 : (M2.1 9 0 18).toInt = (e : Int) - s := by rw [g2, upd_ne (by decide)]; exact h18
      have k19 : M2.1 9 0 19 = 2 := by rw [g2, upd_ne (by decide)]; exact h19
      refine vc_X8_lookAt_218 hX hk ⟨fun q => n274 M2 _ l2 k17 k18 k19 (fun _ => ?_), fun q => ⟨fun q => absurd q (by decide), fun _ => ⟨fun q => absurd k19 q, fun _ => ?_⟩⟩⟩
      · rw [Int32.le_iff_toInt_le, k18] at q
        have q' : (e : Int) - s ≤ 1 := q
        unfold dig2
        rw [if_pos (by omega), v2]
      · rw [Int32.le_iff_toInt_le, k18] at q
        have q' : ¬ (e : Int) - s ≤ 1 := q
        have lo1 := hY.lo (p := s + 1) (by omega)
        have e1 : ((M2.1 9 0 17) + ((0 : Int32) + 1)).toInt = (s : Int) + 1 := by simp only [Int32.lt_iff_toInt_lt, Int32.le_iff_toInt_le, ← Int32.toInt_inj, Int32.toInt_add, Int32.toInt_sub, Int32.toInt_mul, Int32.toInt_neg, Int.bmod, Int32.reduceToInt]; omega
        have c1 : ((M2.1 9 0 17) + ((0 : Int32) + 1)).toNatClampNeg = s + 1 := by rw [z_cl]; omega
        refine ⟨zin_of (n := 150) (by rw [hk]; rfl) (by omega) (by omega), fun M3 e3 => ?_⟩
        rw [c1, y9 M2 l2] at e3
        obtain ⟨l3, g3⟩ := l2.put (by omega) e3
        have v3 : (M3.1 9 0 20).toInt = (atB b s - 48) * 10 + (atB b (s + 1) - 48) := by
          have hm := lo1.2
          rw [g3, upd_at]
          simp only [Int32.lt_iff_toInt_lt, Int32.le_iff_toInt_le, ← Int32.toInt_inj, Int32.toInt_add, Int32.toInt_sub, Int32.toInt_mul, Int32.toInt_neg, Int.bmod, Int32.reduceToInt]; omega
        have j17 : (M3.1 9 0 17).toInt = s := by rw [g3, upd_ne (by decide)]; exact k17
        have j18 : (M3.1 9 0 18).toInt = (e : Int) - s := by rw [g3, upd_ne (by decide)]; exact k18
        have j19 : M3.1 9 0 19 = 2 := by rw [g3, upd_ne (by decide)]; exact k19
        have d2 : (M3.1 9 0 20).toInt = dig2 b s e := by unfold dig2; rw [if_neg (by omega), v3]
        exact vc_X8_lookAt_218 hX hk ⟨fun _ => n274 M3 _ l3 j17 j18 j19 (fun _ => d2), fun _ => ⟨fun _ => n274 M3 _ l3 j17 j18 j19 (fun _ => d2), fun q => absurd (by decide) q⟩⟩
  have run : ∀ (P : Int → Bool) (tk c : Int32), (tk = 1 ∧ P = isLt ∨ tk = 2 ∧ P = isFg) → s < b.length → (∀ (M1 : zM) (g : Int32), lk M M1 → (M1.1 9 0 17).toInt = s → (M1.1 9 0 18).toInt = (skW P b s : Int) - s → M1.1 9 0 19 = tk → (M1.1 9 0 20).toInt = 0 → X 218 [some (zR 9 0), some (zI x), some (zI c), some (zI g), some (zI ((0 : Int32)))] [] M1) → ∀ j, j ≤ b.length → ∀ (M1 : zM) (g : Int32), s < j → lk M M1 → (M1.1 9 0 17).toInt = s → (M1.1 9 0 18).toInt = (j : Int) - s → M1.1 9 0 19 = tk → (M1.1 9 0 20).toInt = 0 → ¬ g = 0 → skW P b j = skW P b s → X 136 [some (zR 9 0), some (zI x), some (zI c), some (zI g), none] [] M1 := by
    intro P tk c hP hsb h218
    refine up (N := b.length) (Q := fun j => ∀ (M1 : zM) (g : Int32), s < j → lk M M1 → (M1.1 9 0 17).toInt = s → (M1.1 9 0 18).toInt = (j : Int) - s → M1.1 9 0 19 = tk → (M1.1 9 0 20).toInt = 0 → ¬ g = 0 → skW P b j = skW P b s → X 136 [some (zR 9 0), some (zI x), some (zI c), some (zI g), none] [] M1) (fun M1 g hj hl h17 h18 h19 h20 hg hsk => ?_) (fun j hjl ih M1 g hj hl h17 h18 h19 h20 hg hsk => ?_)
    · rw [skW_end (Nat.le_refl _)] at hsk
      refine vc_X8_lookAt_136 hX hk ⟨fun q => absurd q hg, fun _ => ⟨fun _ => h218 M1 g hl h17 (by rw [h18, ← hsk]) h19 h20, fun q => ?_⟩⟩
      have := y16 M1 hl
      rw [Int32.le_iff_toInt_le] at q
      simp only [Int32.lt_iff_toInt_lt, Int32.le_iff_toInt_le, ← Int32.toInt_inj, Int32.toInt_add, Int32.toInt_sub, Int32.toInt_mul, Int32.toInt_neg, Int.bmod, Int32.reduceToInt] at q
      omega
    · have h16 := y16 M1 hl
      have ej : ((M1.1 9 0 17) + (M1.1 9 0 18)).toInt = j := by simp only [Int32.lt_iff_toInt_lt, Int32.le_iff_toInt_le, ← Int32.toInt_inj, Int32.toInt_add, Int32.toInt_sub, Int32.toInt_mul, Int32.toInt_neg, Int.bmod, Int32.reduceToInt]; omega
      have cj : ((M1.1 9 0 17) + (M1.1 9 0 18)).toNatClampNeg = j := by rw [z_cl]; omega
      have lo := hY.lo hjl
      have stop : ∀ (v : Int32) (M2 : zM), P (atB b j) = false → v = 0 → M2 = zmw M1 9 0 (upd (M1.1 9 0) 18 ((M1.1 9 0 18) + (0 : Int32))) → X 136 [some (zR 9 0), some (zI x), some (zI c), some (zI v), none] [] M2 := by
        intro v M2 hPj hv e2
        rw [Int32.add_zero] at e2
        obtain ⟨l2, g2⟩ := hl.put (by omega) e2
        rw [upd_sf] at g2
        rw [skW_stop hPj] at hsk
        exact vc_X8_lookAt_136 hX hk ⟨fun _ => h218 M2 v l2 (by rw [g2]; exact h17) (by rw [g2, h18, ← hsk]) (by rw [g2]; exact h19) (by rw [g2]; exact h20), fun q => absurd hv q⟩
      have next : ∀ (v : Int32) (M2 : zM), P (atB b j) = true → ¬ v = 0 → M2 = zmw M1 9 0 (upd (M1.1 9 0) 18 ((M1.1 9 0 18) + (1 : Int32))) → X 136 [some (zR 9 0), some (zI x), some (zI c), some (zI v), none] [] M2 := by
        intro v M2 hPj hv e2
        obtain ⟨l2, g2⟩ := hl.put (by omega) e2
        refine ih M2 v (by omega) l2 (by rw [g2, upd_ne (by decide)]; exact h17) ?_ (by rw [g2, upd_ne (by decide)]; exact h19) (by rw [g2, upd_ne (by decide)]; exact h20) hv (by rw [← skW_step hjl hPj]; exact hsk)
        rw [g2, upd_at]
        simp only [Int32.lt_iff_toInt_lt, Int32.le_iff_toInt_le, ← Int32.toInt_inj, Int32.toInt_add, Int32.toInt_sub, Int32.toInt_mul, Int32.toInt_neg, Int.bmod, Int32.reduceToInt]; omega
      refine vc_X8_lookAt_136 hX hk ⟨fun q => absurd q hg, fun _ => ⟨fun q => ?_, fun _ => ?_⟩⟩
      · rw [Int32.le_iff_toInt_le, h16, ej] at q; omega
      · rw [cj, y9 M1 hl, lo.2]
        refine ⟨zin_of (n := 150) (by rw [hk]; rfl) (by omega) (by omega), fun q v1 h1 => ?_, fun q v4 h4 => ?_⟩
        · rcases hP with ⟨rfl, _⟩ | ⟨_, rfl⟩
          · exact absurd h19 q
          · refine ⟨fun q1 M2 e2 => stop v1 M2 ?_ q1 e2, fun q1 M2 e2 => next v1 M2 ?_ q1 e2⟩
            · rw [h1, zp_0] at q1; simpa using q1
            · rw [h1, zp_n] at q1; exact q1
        · rcases hP with ⟨_, rfl⟩ | ⟨rfl, _⟩
          · refine ⟨fun q1 M2 e2 => stop v4 M2 ?_ q1 e2, fun q1 M2 e2 => next v4 M2 ?_ q1 e2⟩
            · rw [h4, zp_0] at q1; simpa using q1
            · rw [h4, zp_n] at q1; exact q1
          · rw [h19] at q; exact absurd q (by decide)
  have a43 : ∀ M1 : zM, lk M M1 → (M1.1 9 0 17).toInt = s → X 43 [some (zR 9 0), some (zI x), none, none, none] [] M1 := by
    intro M1 hl h17
    refine vc_X8_lookAt_43 hX hk (fun M2 e2 M3 e3 M4 e4 => ?_)
    obtain ⟨l2, g2⟩ := hl.put (by omega) e2
    obtain ⟨l3, g3⟩ := l2.put (by omega) e3
    obtain ⟨l4, g4⟩ := l3.put (by omega) e4
    have k17 : (M4.1 9 0 17).toInt = s := by rw [g4, upd_ne (by decide), g3, upd_ne (by decide), g2, upd_ne (by decide)]; exact h17
    have k18 : (M4.1 9 0 18).toInt = 0 := by rw [g4, upd_ne (by decide), g3, upd_ne (by decide), g2, upd_at]; rfl
    have k19 : (M4.1 9 0 19).toInt = 0 := by rw [g4, upd_ne (by decide), g3, upd_at]; rfl
    have k20 : (M4.1 9 0 20).toInt = 0 := by rw [g4, upd_at]; rfl
    have k16 := y16 M4 l4
    have cs : (M4.1 9 0 17).toNatClampNeg = s := by rw [z_cl]; omega
    rw [cs, y9 M4 l4]
    refine ⟨fun q => ?_, fun q => fin M4 l4 ?_⟩
    · rw [← Int32.toInt_inj, k17, k16] at q
      have hsb : s < b.length := by omega
      have lo := hY.lo hsb
      rw [lo.2]
      have put2 : ∀ (tk : Int32) (M6 M7 : zM), M6 = zmw M4 9 0 (upd (M4.1 9 0) 19 tk) → M7 = zmw M6 9 0 (upd (M6.1 9 0) 18 (1 : Int32)) → lk M M7 ∧ (M7.1 9 0 17).toInt = s ∧ (M7.1 9 0 18).toInt = 1 ∧ M7.1 9 0 19 = tk ∧ (M7.1 9 0 20).toInt = 0 := by
        intro tk M6 M7 e6 e7
        obtain ⟨l6, g6⟩ := l4.put (by omega) e6
        obtain ⟨l7, g7⟩ := l6.put (by omega) e7
        exact ⟨l7, by rw [g7, upd_ne (by decide), g6, upd_ne (by decide)]; exact k17, by rw [g7, upd_at]; rfl, by rw [g7, upd_ne (by decide), g6, upd_at], by rw [g7, upd_ne (by decide), g6, upd_ne (by decide)]; exact k20⟩
      refine ⟨zin_of (n := 150) (by rw [hk]; rfl) (by omega) (by omega), fun v4 h4 => ⟨fun q4 v5 h5 => ⟨fun q5 => ⟨fun q6 M6 e6 M7 e7 => ?_, fun q6 M8 e8 M9 e9 => ?_⟩, fun q5 M10 e10 M11 e11 => ?_⟩, fun q4 M12 e12 M13 e13 => ?_⟩⟩
      · obtain ⟨l, a17, a18, a19, a20⟩ := put2 4 M6 M7 e6 e7
        rw [h4, zp_0] at q4
        rw [h5, zp_0] at q5
        rw [← Int32.toInt_inj, lo.2] at q6
        have q6' : ¬ atB b s = 59 := q6
        have hT := tokS_oth (b := b) (s := s) (by simpa using q4) (by simpa using q5) (by omega)
        rw [if_neg q6'] at hT
        rw [a19]
        refine ⟨fun _ => vc_X8_lookAt_136 hX hk ⟨fun _ => f218 M7 _ _ l ?_ (by rw [a19]; decide), fun q => absurd rfl q⟩, fun q => absurd (by decide) q⟩
        rw [hT]
        exact ⟨a17, by rw [a18]; show (1 : Int) = ((s + 1 : Nat) : Int) - s; omega, by rw [a19]; rfl, fun q => absurd q (by show ¬ (1 : Int) = 3; decide), by show s ≤ s + 1; omega, by show s + 1 ≤ b.length; omega, by dsimp only; omega, by dsimp only; omega⟩
      · obtain ⟨l, a17, a18, a19, a20⟩ := put2 3 M8 M9 e8 e9
        rw [h4, zp_0] at q4
        rw [h5, zp_0] at q5
        rw [← Int32.toInt_inj, lo.2] at q6
        have q6' : atB b s = 59 := q6
        have hT := tokS_oth (b := b) (s := s) (by simpa using q4) (by simpa using q5) (by omega)
        rw [if_pos q6'] at hT
        rw [a19]
        refine ⟨fun _ => vc_X8_lookAt_136 hX hk ⟨fun _ => f218 M9 _ _ l ?_ (by rw [a19]; decide), fun q => absurd rfl q⟩, fun q => absurd (by decide) q⟩
        rw [hT]
        exact ⟨a17, by rw [a18]; show (1 : Int) = ((s + 1 : Nat) : Int) - s; omega, by rw [a19]; rfl, fun q => absurd q (by show ¬ (2 : Int) = 3; decide), by show s ≤ s + 1; omega, by show s + 1 ≤ b.length; omega, by dsimp only; omega, by dsimp only; omega⟩
      · obtain ⟨l, a17, a18, a19, a20⟩ := put2 2 M10 M11 e10 e11
        rw [h4, zp_0] at q4
        rw [h5, zp_n] at q5
        rw [a19]
        exact ⟨fun q => absurd q (by decide), fun _ => run isFg 2 _ (Or.inr ⟨rfl, rfl⟩) hsb (fun M1 g hl h17 h18 h19 h20 => n218 hsb (by simpa using q4) q5 M1 _ g hl h17 h18 h19 h20) (s + 1) (by omega) M11 1 (by omega) l a17 (by rw [a18]; omega) a19 a20 (by decide) (skW_step hsb q5).symm⟩
      · obtain ⟨l, a17, a18, a19, a20⟩ := put2 1 M12 M13 e12 e13
        rw [h4, zp_n] at q4
        rw [a19]
        have hT := tokS_lt q4
        refine ⟨fun q => absurd q (by decide), fun _ => run isLt 1 _ (Or.inl ⟨rfl, rfl⟩) hsb (fun M1 g hl h17 h18 h19 h20 => f218 M1 _ g hl ?_ (by rw [h19]; decide)) (s + 1) (by omega) M13 1 (by omega) l a17 (by rw [a18]; omega) a19 a20 (by decide) (skW_step hsb q4).symm⟩
        rw [hT]
        exact ⟨h17, h18, by rw [h19]; rfl, fun q => absurd q (by show ¬ (4 : Int) = 3; decide), skW_ge, skW_le hsl, by dsimp only; omega, by dsimp only; omega⟩
    · rw [← Int32.toInt_inj, k17, k16] at q
      rw [tokS_end (atB_out (by omega))]
      exact ⟨k17, by rw [k18]; show (0 : Int) = (s : Int) - s; omega, by rw [k19]; rfl, fun q => absurd q (by show ¬ (0 : Int) = 3; decide), Nat.le_refl _, hsl, by dsimp only; omega, by dsimp only; omega⟩
  refine vc_X8_lookAt_0 hX hk (fun M1 e1 => ?_)
  obtain ⟨l1, g1⟩ := (lk.rf (M := M)).put (by omega) e1
  refine up (N := b.length) (Q := fun j => ∀ M1 : zM, lk M M1 → (M1.1 9 0 17).toInt = j → skW isBk b j = s → X 5 [some (zR 9 0), some (zI x), none, none, none] [] M1) (fun M1 hl h17 hsk => ?_) (fun j hj ih M1 hl h17 hsk => ?_) p hp.2 M1 l1 (by rw [g1, upd_at]; exact hp.1) hs
  · rw [skW_end (Nat.le_refl _)] at hsk
    have := y16 M1 hl
    refine vc_X8_lookAt_5 hX hk ⟨fun _ => a43 M1 hl (by rw [h17, hsk]), fun q => ?_⟩
    rw [Int32.le_iff_toInt_le] at q; omega
  · have h16 := y16 M1 hl
    have cj : (M1.1 9 0 17).toNatClampNeg = j := by rw [z_cl]; omega
    have lo := hY.lo hj
    refine vc_X8_lookAt_5 hX hk ⟨fun q => ?_, fun _ => ?_⟩
    · rw [Int32.le_iff_toInt_le] at q; omega
    · rw [cj, y9 M1 hl]
      refine ⟨zin_of (n := 150) (by rw [hk]; rfl) (by omega) (by omega), fun q => a43 M1 hl ?_, fun q M2 e2 => ?_⟩
      · rw [← Int32.toInt_inj, lo.2] at q
        have q' : ¬ atB b j = 32 := q
        have : skW isBk b j = j := skW_stop (by unfold isBk; exact decide_eq_false q')
        rw [h17, ← hsk, this]
      · rw [← Int32.toInt_inj, lo.2] at q
        have q' : atB b j = 32 := q
        obtain ⟨l2, g2⟩ := hl.put (by omega) e2
        refine ih M2 l2 (by rw [g2, upd_at]; exact z_inc h17 (by omega)) ?_
        rw [← skW_step hj (by unfold isBk; exact decide_eq_true q')]
        exact hsk
theorem ms_X8_lookAt : zMS 3 yX8_lookAt cX8_lookAt 5 none sp_X8_lookAt := by
  intro d hd
  obtain ⟨d', rfl⟩ : ∃ d', d = d' + 3 := ⟨d - 3, by omega⟩
  refine zmethod (tab := tb_X8_lookAt) (cut := [(5, [2, 3, 4]), (43, [2, 3, 4]), (136, [4]), (218, []), (274, [])]) (by decide) (tk_X8_lookAt d' ms_X8_isSmall ms_X8_isFigure) ?_
  intro kd as M K h
  unfold sp_X8_lookAt at h
  split at h
  · rename_i x
    exact ⟨Nat.le_of_ble_eq_true rfl, fun X hX => mt_X8_lookAt hX x M h⟩
  · exact h.elim

set_option maxRecDepth 20000 in
theorem mt_X8_goBehind {kd : Nat → Nat} {K : zK} {X : zX} (hX : ∀ (n pc : Nat) (ls : zLS) (st : List zV) (M : zM), zrun (tb_X8_goBehind kd K) [] n X pc ls st M → X pc ls st M)  (M : zM) (h : (kd 9 = 8) ∧ ∃ b : List Int, ∃ T : Tk, (RpY M b) ∧ (RpT2 (M.1 9 0) b T) ∧ ∀ f : Nat → Int32, (RpT2 f b (tok b T.2.2.2) ∧ ∀ j9, j9 ≤ 16 → f j9 = M.1 9 0 j9) → ∀ M' : zM, (M' = zmw M 9 0 f) → K none M') : X 0 [some (zR 9 0)] [] M := by
  obtain ⟨hk, b, T, hY, hT, hK⟩ := h
  obtain ⟨t1, t2, t3, t4, t5, t6, t7, t8⟩ := hT
  have h150 := hY.1
  exact vc_X8_goBehind_0 hX hk ⟨b, hY, T.2.2.2, ⟨by simp only [Int32.lt_iff_toInt_lt, Int32.le_iff_toInt_le, ← Int32.toInt_inj, Int32.toInt_add, Int32.toInt_sub, Int32.toInt_mul, Int32.toInt_neg, Int.bmod, Int32.reduceToInt]; omega, t6⟩, fun f1 h1 M1 e1 => hK f1 h1 M1 e1⟩
theorem ms_X8_goBehind : zMS 4 yX8_goBehind cX8_goBehind 1 none sp_X8_goBehind := by
  intro d hd
  obtain ⟨d', rfl⟩ : ∃ d', d = d' + 4 := ⟨d - 4, by omega⟩
  refine zmethod (tab := tb_X8_goBehind) (cut := []) (by decide) (tk_X8_goBehind d' ms_X8_lookAt) ?_
  intro kd as M K h
  unfold sp_X8_goBehind at h
  split at h
  · skip
    exact ⟨Nat.le_of_ble_eq_true rfl, fun X hX => mt_X8_goBehind hX  M h⟩
  · exact h.elim

theorem tkm_w {k : Int} (h : 0 ≤ k ∧ k ≤ 4) : tkm k = 1 ↔ k = 4 := by
  unfold tkm
  rcases (show k = 0 ∨ k = 1 ∨ k = 2 ∨ k = 3 ∨ k = 4 by omega) with rfl | rfl | rfl | rfl | rfl <;> decide
theorem tkm_n {k : Int} (h : 0 ≤ k ∧ k ≤ 4) : tkm k = 2 ↔ k = 3 := by
  unfold tkm
  rcases (show k = 0 ∨ k = 1 ∨ k = 2 ∨ k = 3 ∨ k = 4 by omega) with rfl | rfl | rfl | rfl | rfl <;> decide
theorem tkm_s {k : Int} (h : 0 ≤ k ∧ k ≤ 4) : tkm k = 3 ↔ k = 2 := by
  unfold tkm
  rcases (show k = 0 ∨ k = 1 ∨ k = 2 ∨ k = 3 ∨ k = 4 by omega) with rfl | rfl | rfl | rfl | rfl <;> decide
theorem tkm_e {k : Int} (h : 0 ≤ k ∧ k ≤ 4) : tkm k = 0 ↔ k = 0 := by
  unfold tkm
  rcases (show k = 0 ∨ k = 1 ∨ k = 2 ∨ k = 3 ∨ k = 4 by omega) with rfl | rfl | rfl | rfl | rfl <;> decide
theorem RpT2.k {f : Nat → Int32} {b : List Int} {T : Tk} (h : RpT2 f b T) : (f 19 = 1 ↔ T.2.1 = 4) ∧ (f 19 = 2 ↔ T.2.1 = 3) ∧ (f 19 = 3 ↔ T.2.1 = 2) ∧ (f 19 = 0 ↔ T.2.1 = 0) := by
  have h3 := h.2.2.1
  have hb := h.2.2.2.2.2.2
  refine ⟨?_, ?_, ?_, ?_⟩ <;> rw [← Int32.toInt_inj, h3]
  · exact tkm_w hb
  · exact tkm_n hb
  · exact tkm_s hb
  · exact tkm_e hb
theorem atB_some {b : List Int} {p : Nat} (h : p < b.length) : b[p]? = some (atB b p) := by
  unfold atB
  rw [List.getElem?_eq_getElem h]
  rfl
set_option maxRecDepth 20000 in
theorem mt_X8_isWord {kd : Nat → Nat} {K : zK} {X : zX} (hX : ∀ (n pc : Nat) (ls : zLS) (st : List zV) (M : zM), zrun (tb_X8_isWord kd K) [(26, [])] n X pc ls st M → X pc ls st M) (n : Int32) (p : Int32) (q : Int32) (r : Int32) (s : Int32) (u : Int32) (M : zM) (h : (kd 9 = 8) ∧ ∃ b : List Int, ∃ T : Tk, (RpY M b) ∧ (RpT2 (M.1 9 0) b T) ∧ ∃ w : Nat, ((20 ≤ w ∧ w < 24) ∧ n.toInt = ((wdI w).length : Int) ∧ ∀ k9, k9 < (wdI w).length → (wdI w)[k9]? = some (wds p.toInt q.toInt r.toInt s.toInt u.toInt k9)) ∧ ∀ v : Int32, (v = zp (isWd b T w = true)) → K (some (zI v)) M) : X 0 [some (zR 9 0), some (zI (n)), some (zI (p)), some (zI (q)), some (zI (r)), some (zI (s)), some (zI (u)), none, none] [] M := by
  obtain ⟨hk, b, T, hY, hT, w, ⟨hw, hn, hwd⟩, hK⟩ := h
  obtain ⟨t1, t2, t3, t4, t5, t6, t7, t8⟩ := id hT
  have h150 := hY.1
  have h5 : (wdI w).length ≤ 5 := by rw [wd_len hw]; exact (zslb hw).2
  have no : ¬ isWd b T w = true → K (some (zI 0)) M := fun q => hK _ (zp_f q).symm
  have hlen : ((b.drop T.1).take (T.2.2.2 - T.1)).length = T.2.2.2 - T.1 := by rw [List.length_take, List.length_drop]; omega
  have f0 : ∀ k : Int32, ¬ isWd b T w = true → X 26 [some (zR 9 0), some (zI n), some (zI p), some (zI q), some (zI r), some (zI s), some (zI u), some (zI ((0 : Int32))), some (zI k)] [] M := fun k h => vc_X8_isWord_26 hX hk ⟨fun _ => ⟨Or.inl rfl, no h⟩, fun _ => ⟨fun _ => ⟨Or.inl rfl, no h⟩, fun q => absurd rfl q⟩⟩
  refine vc_X8_isWord_0 hX hk ⟨fun q1 => f0 _ ?_, fun q1 => ⟨fun q2 => f0 _ ?_, fun q2 => ?_⟩⟩
  · rw [hT.k.1] at q1
    simp [isWd, q1]
  · intro e
    unfold isWd at e
    rw [Bool.and_eq_true, decide_eq_true_eq, decide_eq_true_eq] at e
    have e2 := congrArg List.length e.2
    rw [hlen] at e2
    apply q2
    rw [← Int32.toInt_inj, hn]
    omega
  · rw [hT.k.1] at q1
    rw [← Int32.toInt_inj, hn] at q2
    have hTl : T.2.2.2 - T.1 = (wdI w).length := by omega
    refine up (N := (wdI w).length) (Q := fun j => ∀ k : Int32, k.toInt = j → (∀ i, i < j → b[T.1 + i]? = (wdI w)[i]?) → X 26 [some (zR 9 0), some (zI n), some (zI p), some (zI q), some (zI r), some (zI s), some (zI u), some (zI ((1 : Int32))), some (zI k)] [] M) (fun k hk1 hal => ?_) (fun j hj ih k hk1 hal => ?_) 0 (by omega) 0 rfl (fun i hi => absurd hi (by omega))
    · refine vc_X8_isWord_26 hX hk ⟨fun _ => ⟨Or.inr rfl, hK _ (zp_t ?_).symm⟩, fun q => by rw [Int32.le_iff_toInt_le] at q; omega⟩
      unfold isWd
      rw [Bool.and_eq_true, decide_eq_true_eq, decide_eq_true_eq]
      refine ⟨q1, List.ext_getElem? (fun i => ?_)⟩
      rw [List.getElem?_take, List.getElem?_drop]
      by_cases hi : i < (wdI w).length
      · rw [if_pos (by omega)]; exact hal i hi
      · rw [if_neg (by omega), List.getElem?_eq_none (by omega)]
    · have hat : ((M.1 9 0 17) + k).toInt = ((T.1 + j : Nat) : Int) := by simp only [Int32.lt_iff_toInt_lt, Int32.le_iff_toInt_le, ← Int32.toInt_inj, Int32.toInt_add, Int32.toInt_sub, Int32.toInt_mul, Int32.toInt_neg, Int.bmod, Int32.reduceToInt]; omega
      have hnc : ((M.1 9 0 17) + k).toNatClampNeg = T.1 + j := by rw [z_cl]; omega
      have lo := hY.lo (p := T.1 + j) (by omega)
      have hwj := hwd j hj
      have go : ∀ x : Int32, x.toInt = wds p.toInt q.toInt r.toInt s.toInt u.toInt j → ((¬ (M.1 9 9 (T.1 + j)) = x) → X 26 [some (zR 9 0), some (zI n), some (zI p), some (zI q), some (zI r), some (zI s), some (zI u), some (zI ((0 : Int32))), some (zI (k + 1))] [] M) ∧ (((M.1 9 9 (T.1 + j)) = x) → X 26 [some (zR 9 0), some (zI n), some (zI p), some (zI q), some (zI r), some (zI s), some (zI u), some (zI ((1 : Int32))), some (zI (k + 1))] [] M) := by
        intro x hx
        refine ⟨fun e => f0 _ ?_, fun e => ih (k + 1) (z_inc hk1 (by omega)) (fun i hi => ?_)⟩
        · intro h
          unfold isWd at h
          rw [Bool.and_eq_true, decide_eq_true_eq, decide_eq_true_eq] at h
          have h2 := congrArg (fun l => l[j]?) h.2
          rw [List.getElem?_take, List.getElem?_drop, if_pos (by omega), atB_some (by omega), hwj] at h2
          apply e
          rw [← Int32.toInt_inj, lo.2, hx]
          exact Option.some.inj h2
        · by_cases hij : i < j
          · exact hal i hij
          · have hi' : i = j := by omega
            subst hi'
            rw [atB_some (by omega), hwj, ← hx, ← e, lo.2]
      have ke : ∀ (m : Int32) (z : Nat), m.toInt = z → (k = m ↔ j = z) := fun m z e => by rw [← Int32.toInt_inj, hk1, e]; omega
      refine vc_X8_isWord_26 hX hk ⟨fun q => by rw [Int32.le_iff_toInt_le] at q; omega, fun _ => ⟨fun q => absurd q (by decide), fun _ => ?_⟩⟩
      rw [hnc, ke 0 0 rfl, ke 1 1 rfl, ke 2 2 rfl, ke 3 3 rfl]
      refine ⟨zin_of (n := 150) (by rw [hk]; rfl) (by omega) (by omega), fun h0 => ⟨fun h1 => ⟨fun h2 => ⟨fun h3 => go u ?_, fun h3 => go s ?_⟩, fun h2 => go r ?_⟩, fun h1 => go q ?_⟩, fun h0 => go p ?_⟩ <;> unfold wds
      · rw [if_neg h0, if_neg h1, if_neg h2, if_neg h3]
      · rw [if_neg h0, if_neg h1, if_neg h2, if_pos h3]
      · rw [if_neg h0, if_neg h1, if_pos h2]
      · rw [if_neg h0, if_pos h1]
      · rw [if_pos h0]
theorem ms_X8_isWord : zMS 1 yX8_isWord cX8_isWord 9 (some .boolean) sp_X8_isWord := by
  intro d hd
  obtain ⟨d', rfl⟩ : ∃ d', d = d' + 1 := ⟨d - 1, by omega⟩
  refine zmethod (tab := tb_X8_isWord) (cut := [(26, [])]) (by decide) (tk_X8_isWord d' ) ?_
  intro kd as M K h
  unfold sp_X8_isWord at h
  split at h
  · rename_i n p q r s u
    exact ⟨Nat.le_of_ble_eq_true rfl, fun X hX => mt_X8_isWord hX n p q r s u M h⟩
  · exact h.elim

