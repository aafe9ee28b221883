/-! ===== ranges ===== -/
theorem ncv_rng {M : Mm} (hI : RuI M) (k f : Int) : 0 ≤ ncv (M 30) k f ∧ ncv (M 30) k f ≤ 20 := by
  have e6 := (hI.1 6 (by omega) (by omega)).2
  have e0 := (hI.1 0 (by omega) (by omega)).2
  have e1 := (hI.1 1 (by omega) (by omega)).2
  unfold ncv
  split
  · exact e6
  · split
    · exact e0
    · split
      · exact e1
      · omega
theorem rcv_rng {M : Mm} (hI : RuI M) {f g a : Int} (h1 : 1 ≤ f) (h2 : f < g) (h3 : g ≤ 5) (h4 : 0 ≤ a) : rcv (M 27) (M 28) (M 29) (10 * f + g) a = 1000000 ∨ (0 ≤ rcv (M 27) (M 28) (M 29) (10 * f + g) a ∧ rcv (M 27) (M 28) (M 29) (10 * f + g) a ≤ 24) := by
  obtain ⟨e1, e2, e3, e4, e5, e6, e7⟩ := hI.2 f g h1 h2 h3
  unfold rcv
  split
  · exact Or.inl rfl
  · right
    split <;> omega
theorem stv_rng {M : Mm} (hI : RuI M) {hand a f b g : Int} (hf0 : 1 ≤ f) (hf1 : f ≤ 5) (hg0 : 1 ≤ g) (hg1 : g ≤ 5) : stv (M 30) (M 27) (M 28) (M 29) hand a f b g = 1000000 ∨ (0 ≤ stv (M 30) (M 27) (M 28) (M 29) hand a f b g ∧ stv (M 30) (M 27) (M 28) (M 29) hand a f b g ≤ 25) := by
  have e5 := (hI.1 5 (by omega) (by omega)).2
  have e4 := (hI.1 4 (by omega) (by omega)).2
  have e3 := (hI.1 3 (by omega) (by omega)).2
  have e2 := (hI.1 2 (by omega) (by omega)).2
  unfold stv
  dsimp only
  generalize (if hand = 0 then b - a else a - b) = dd
  split
  · right; split <;> omega
  · split
    · right; split <;> omega
    · split
      · have := rcv_rng hI (f := min f g) (g := max f g) (a := dd.natAbs) (by omega) (by omega) (by omega) (by omega)
        omega
      · split
        · right; omega
        · exact Or.inl rfl
/-! ===== what is laid out ===== -/
/-- a mark as a set of fingers -/
def cod (m : Int) : Int := if m = -9 then 62 else shlI 1 m
def okc (c f : Int) : Prop := andI (shrI c f) 1 = 1
theorem cod_ok {m f : Int} (hm : m = -9 ∨ (1 ≤ m ∧ m ≤ 5)) (hf0 : 1 ≤ f) (hf1 : f ≤ 5) : okc (cod m) f ↔ (m = -9 ∨ m = f) := by
  have h1 : m = -9 ∨ m = 1 ∨ m = 2 ∨ m = 3 ∨ m = 4 ∨ m = 5 := by omega
  have h2 : f = 1 ∨ f = 2 ∨ f = 3 ∨ f = 4 ∨ f = 5 := by omega
  unfold okc cod
  rcases h1 with rfl | rfl | rfl | rfl | rfl | rfl <;> rcases h2 with rfl | rfl | rfl | rfl | rfl <;> decide +kernel
theorem cod_rng {m : Int} (hm : m = -9 ∨ (1 ≤ m ∧ m ≤ 5)) : R32 (cod m) := by
  unfold cod
  split
  · decide
  · exact R32_toInt _
/-- notes of hand h laid out: hand, number, keys, fingers -/
def Laid (M M' : Mm) (h : Int) : Prop := M' 24 6 = h ∧ M' 24 7 = cnt (fK M h) 30 ∧ (∀ m : Nat, m < 30 → fK M h m ≠ -9 → M' 31 (cnt (fK M h) m) = fK M h m ∧ M' 32 (cnt (fK M h) m) = cod (M 26 (30 * h + m))) ∧
  ∀ c j, ¬ (c = 31 ∨ c = 32 ∨ (c = 24 ∧ (j = 6 ∨ j = 7))) → M' c j = M c j
theorem z_layNotes_loop {N : Nat} {h : Int} {M : Mm} (hh : h = 0 ∨ h = 1) (hk : KyI M) : ∀ (n i : Nat), i + n = 30 → ∀ M1 : Mm, M1 24 6 = h → M1 24 7 = cnt (fK M h) i → (∀ m : Nat, m < i → fK M h m ≠ -9 → M1 31 (cnt (fK M h) m) = fK M h m ∧ M1 32 (cnt (fK M h) m) = cod (M 26 (30 * h + m))) → (∀ c j, ¬ (c = 31 ∨ c = 32 ∨ (c = 24 ∧ (j = 6 ∨ j = 7))) → M1 c j = M c j) → ∀ L3 : Option Vl,
    AJ 0 0 0 mM_layNotes (fun r S' M' => r = none ∧ S' = S0 N ∧ Laid M M' h) 0 0 12 [some (.inr 24), some (.inl h), some (.inl i), L3] [] (S0 N) M1 := by
  intro n
  induction n with
  | zero =>
    intro i hi M1 e1 e2 e3 e4 L3
    have : i = 30 := by omega
    subst this
    refine aM_layNotes [12] 30 (fun hM => ?_)
    exact ⟨by decide, rfl, rfl, e1, e2, e3, e4⟩
  | succ n ih =>
    intro i hi M1 e1 e2 e3 e4 L3
    have hr := cnt_rng (fK M h) i
    have f25 : ∀ j, M1 25 j = M 25 j := fun j => e4 25 j (by omega)
    have f26 : ∀ j, M1 26 j = M 26 j := fun j => e4 26 j (by omega)
    have hkk := hk (30 * h + i) (by omega) (by omega)
    refine aM_layNotes [12] 60 (fun hM => ?_)
    refine ⟨by omega, ite_i (fun q => ?_) (fun q => by omega)⟩
    refine ⟨by omega, ⟨hM _ _, by decide⟩, ite_i (fun q => ?_) (fun q => ?_)⟩
    · rw [f25] at q
      have e : cnt (fK M h) (i + 1) = cnt (fK M h) i := by
        show cnt (fK M h) i + (if fK M h i = -9 then 0 else 1) = _
        rw [if_pos q]; omega
      exact ih (i + 1) (by omega) M1 e1 (by rw [e]; exact e2) (fun m hm hf => by
        by_cases hmi : m = i
        · subst hmi; exact absurd q hf
        · exact e3 m (by omega) hf) e4 _
    · rw [f25] at q
      have e : cnt (fK M h) (i + 1) = cnt (fK M h) i + 1 := by
        show cnt (fK M h) i + (if fK M h i = -9 then 0 else 1) = _
        rw [if_neg q]
      have fin : ∀ v j1 j2 j3 kk : Int, v = cod (M 26 (30 * h + i)) → j1 = M1 24 7 → j2 = M1 24 7 → j3 = M1 24 7 + 1 → kk = M1 25 (30 * h + i) → AJ 0 0 0 mM_layNotes (fun r S' M' => r = none ∧ S' = S0 N ∧ Laid M M' h) 0 0 12 [some (.inr 24), some (.inl h), some (.inl ((i : Int) + 1)), some (.inl (30 * h + i))] [] (S0 N) (mset (mset (mset M1 31 j1 kk) 32 j2 v) 24 7 j3) := by
        intro v j1 j2 j3 kk hv h1 h2 h3 h4
        subst h1; subst h2; subst h3; subst h4
        refine ih (i + 1) (by omega) _ ?_ ?_ ?_ ?_ _
        · simp [mset, e1]
        · simp [mset, e, e2]
        · intro m hm hf
          by_cases hmi : m = i
          · subst hmi
            simp [mset, e2, f25, hv]
          · have h1 := e3 m (by omega) hf
            have h2 := cnt_lt (fK M h) (show m < i by omega) hf
            have h3 : ¬ (cnt (fK M h) m = cnt (fK M h) i) := by omega
            simp [mset, e2, h3, h1]
        · intro c j hcj
          rw [mset_ne (by omega), mset_ne (by omega), mset_ne (by omega)]
          exact e4 c j hcj
      have h7 : ∀ a b : Int, (mset M1 31 a b) 24 7 = M1 24 7 := fun a b => by simp [mset]
      have h72 : ∀ a b c e : Int, (mset (mset M1 31 a b) 32 c e) 24 7 = M1 24 7 := fun a b c e => by simp [mset]
      have g26 : ∀ a b : Int, (mset M1 31 a b) 26 (30 * h + i) = M 26 (30 * h + i) := fun a b => by rw [mset_ne (by omega), f26]
      refine ⟨by omega, ⟨by decide, by omega, by omega, by omega, hM _ _⟩, ?_⟩
      refine ⟨by omega, ⟨by rw [g26, ← f26]; exact hM _ _, by decide⟩, ite_i (fun q2 => ?_) (fun q2 => ?_)⟩
      · rw [g26] at q2
        refine ⟨⟨by decide, by rw [h7]; omega, by rw [h7]; omega, by rw [h7]; omega, by decide⟩, ⟨by rw [h72]; omega, trivial⟩, ?_⟩
        exact fin _ _ _ _ _ (by unfold cod; rw [if_pos q2]) rfl (h7 _ _) (by rw [h72]) rfl
      · rw [g26] at q2
        have hc := cod_rng hkk.2.1
        have hc2 : shlI 1 (M 26 (30 * h + i)) = cod (M 26 (30 * h + i)) := by unfold cod; rw [if_neg q2]
        refine ⟨by omega, ⟨by decide, by rw [h7]; omega, by rw [h7]; omega, by rw [h7]; omega, by rw [g26, hc2]; exact hc⟩, ⟨by rw [h72]; omega, trivial⟩, ?_⟩
        exact fin _ _ _ _ _ (by rw [g26, hc2]) rfl (h7 _ _) (by rw [h72]) rfl
theorem z_layNotes {N : Nat} {h : Int} {M : Mm} (hh : h = 0 ∨ h = 1) (hk : KyI M) : Ret 0 0 0 mM_layNotes [.inr 24, .inl h] (S0 N) M (fun r S' M' => r = none ∧ S' = S0 N ∧ Laid M M' h) := by
  refine eM_layNotes [12] 30 (Nat.le_of_ble_eq_true rfl) (fun hM => ?_)
  refine ⟨⟨by omega, trivial⟩, ⟨by decide, trivial⟩, ?_⟩
  refine AJ.wk (z_layNotes_loop (N := N) hh hk 30 0 rfl _ ?_ ?_ ?_ ?_ none) ⟨rfl, rfl, rfl, trivial⟩
  · simp [mset]
  · simp [mset, cnt]
  · intro m hm; omega
  · intro c j hcj
    rw [mset_ne (by omega), mset_ne (by omega)]
