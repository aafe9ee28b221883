def mn (x least : Int) : Int := if x < least then x else least
def mfr (φ : Int → Int) : Nat → Int → Int → Int
  | 0, _, l => l
  | n + 1, g, l => mfr φ n (g + 1) (mn (φ g) l)
def m5 (φ : Int → Int) : Int := mfr φ 5 1 1000000
theorem mn_rng {x l : Int} (h0 : 0 ≤ x) (h1 : 0 ≤ l) (h2 : l ≤ 1000000) : 0 ≤ mn x l ∧ mn x l ≤ 1000000 := by unfold mn; split <;> omega
theorem mfr_congr {φ ψ : Int → Int} : ∀ (n : Nat) (g l : Int), (∀ i, g ≤ i → i < g + n → φ i = ψ i) → mfr φ n g l = mfr ψ n g l := by
  intro n
  induction n with
  | zero => intro g l h; rfl
  | succ n ih =>
    intro g l h
    unfold mfr
    rw [h g (by omega) (by omega)]
    exact ih _ _ (fun i h1 h2 => h i (by omega) (by omega))
theorem m5_congr {φ ψ : Int → Int} (h : ∀ g, 1 ≤ g → g ≤ 5 → φ g = ψ g) : m5 φ = m5 ψ := mfr_congr 5 1 _ (fun i h1 h2 => h i h1 (by omega))
theorem mfr_rng {φ : Int → Int} : ∀ (n : Nat) (g l : Int), (∀ i, g ≤ i → i < g + n → 0 ≤ φ i) → 0 ≤ l → l ≤ 1000000 → 0 ≤ mfr φ n g l ∧ mfr φ n g l ≤ 1000000 := by
  intro n
  induction n with
  | zero => intro g l h h1 h2; exact ⟨h1, h2⟩
  | succ n ih =>
    intro g l h h1 h2
    have h3 := mn_rng (h g (by omega) (by omega)) h1 h2
    exact ih _ _ (fun i q1 q2 => h i (by omega) (by omega)) h3.1 h3.2
theorem m5_rng {φ : Int → Int} (h : ∀ g, 1 ≤ g → g ≤ 5 → 0 ≤ φ g) : 0 ≤ m5 φ ∧ m5 φ ≤ 1000000 := mfr_rng 5 1 _ (fun i h1 h2 => h i h1 (by omega)) (by omega) (by omega)
/-- places b+1 to b+i of a cell written -/
def wr (M : Mm) (c : Nat) (b : Int) (V : Int → Int) (i : Int) : Mm := fun c' j => if c' = c ∧ b + 1 ≤ j ∧ j ≤ b + i then V (j - b) else M c' j
theorem wr_0 (M : Mm) (c : Nat) (b : Int) (V : Int → Int) : wr M c b V 0 = M := by
  funext c' j; unfold wr; rw [if_neg]; omega
theorem wr_step {M : Mm} {c : Nat} {b i v : Int} {V : Int → Int} (hi : 0 ≤ i) (hv : v = V (i + 1)) : mset (wr M c b V i) c (b + (i + 1)) v = wr M c b V (i + 1) := by
  funext c' j
  unfold mset wr
  by_cases h : c' = c ∧ j = b + (i + 1)
  · rw [if_pos h, if_pos (by omega), hv]; congr 1; omega
  · rw [if_neg h]
    by_cases h2 : c' = c ∧ b + 1 ≤ j ∧ j ≤ b + i
    · rw [if_pos h2, if_pos (by omega)]
    · rw [if_neg h2, if_neg (by omega)]
theorem wr_ne {M : Mm} {c : Nat} {b i : Int} {V : Int → Int} {c' : Nat} {j : Int} (h : ¬ (c' = c ∧ b + 1 ≤ j ∧ j ≤ b + i)) : wr M c b V i c' j = M c' j := by unfold wr; rw [if_neg h]
theorem wr_eq {M : Mm} {c : Nat} {b i : Int} {V : Int → Int} {f : Int} (h1 : 1 ≤ f) (h2 : f ≤ i) : wr M c b V i c (b + f) = V f := by
  unfold wr; rw [if_pos (by omega)]; congr 1; omega
theorem Agr.wr {M0 M : Mm} (h : Agr M0 M) {c : Nat} (hc : 33 ≤ c ∧ c ≤ 37) (b i : Int) (V : Int → Int) : Agr M0 (wr M c b V i) := by
  intro c' j hc'
  rw [wr_ne (by omega)]; exact h c' j hc'
theorem aft_congr {M M' : Mm} {k f : Int} (h12 : M' 24 12 = M 24 12) (h10 : M' 24 10 = M 24 10) (h37 : M' 37 f = M 37 f) (h35 : M' 35 (6 * k + f) = M 35 (6 * k + f)) : aft M' k f = aft M k f := by
  unfold aft; rw [h12, h10, h37, h35]
section Back
variable {N : Nat} {k : Int} {M0 M : Mm}
theorem z_back_inner {f : Int} {Φ : Option Vl → Ly → Mm → Prop} {φ : Int → Int} (hA : Agr M0 M) (hL : LOk M0) (h0 : 0 ≤ k) (h1 : k + 1 < M0 24 7) (hf0 : 1 ≤ f) (hf1 : f ≤ 5) (hB : ∀ g, 1 ≤ g → g ≤ 5 → 0 ≤ aft M (k + 1) g ∧ aft M (k + 1) g ≤ 2000000) (hφ : ∀ g, 1 ≤ g → g ≤ 5 → φ g = goM M0 k f g + aft M (k + 1) g) :
    ∀ (n : Nat) (g l : Int) (L5 : Option Vl), g + n = 6 → 1 ≤ g → 0 ≤ l → l ≤ 1000000 → AJ 4 0 0 mM_back Φ 0 0 82 [some (.inr 24), some (.inl k), some (.inl f), some (.inl (mfr φ n g l))] [] (S0 N) M → AJ 4 0 0 mM_back Φ 0 0 27 [some (.inr 24), some (.inl k), some (.inl f), some (.inl l), some (.inl g), L5] [] (S0 N) M := by
  intro n
  induction n with
  | zero =>
    intro g l L5 hg hg1 hl0 hl1 kk
    have : g = 6 := by omega
    subst this
    refine aM_back [82] 30 (fun hM => ?_)
    exact ⟨by decide, AJ.wk kk ⟨rfl, rfl, rfl, rfl, trivial⟩⟩
  | succ n ih =>
    intro g l L5 hg hg1 hl0 hl1 kk
    have e247 : M 24 7 = M0 24 7 := hA 24 7 (by omega)
    have hb := hB g hg1 (by omega)
    have hgo := goM_rng hL.1 (k := k) hf0 hf1 hg1 (show g ≤ 5 by omega)
    have hp := hφ g hg1 (by omega)
    have hl7 := hL.2.2.2.1
    refine aM_back [82, 27] 40 (fun hM => ?_)
    refine ⟨by omega, ite_i (fun q => by omega) (fun q => ?_)⟩
    refine ⟨by omega, ite_i (fun q => ?_) (fun q => by omega)⟩
    refine CL.pu (z_goingOn hA hL h0 h1 hf0 hf1 hg1 (by omega)) (Nat.le_of_ble_eq_true rfl) ?_
    refine CL.pu (z_after (by omega) (by omega) hg1 (by omega)) (Nat.le_of_ble_eq_true rfl) ?_
    refine ⟨by omega, ite_i (fun q => ?_) (fun q => ?_)⟩
    · refine ih (g + 1) _ _ (by omega) (by omega) (by omega) (by omega) ?_
      unfold mfr mn at kk
      rw [hp, if_pos q] at kk
      exact kk
    · refine ih (g + 1) _ _ (by omega) (by omega) (by omega) (by omega) ?_
      unfold mfr mn at kk
      rw [hp, if_neg q] at kk
      exact kk
/-- what back writes -/
def bkV (M0 M : Mm) (k f : Int) : Int := if k = M0 24 7 - 1 then 0 else m5 (fun g => goM M0 k f g + aft M (k + 1) g)
theorem z_back_outer (hA : Agr M0 M) (hL : LOk M0) (h0 : 0 ≤ k) (h1 : k < M0 24 7) (hB : k + 1 < M0 24 7 → ∀ g, 1 ≤ g → g ≤ 5 → 0 ≤ aft M (k + 1) g ∧ aft M (k + 1) g ≤ 2000000) :
    ∀ (n i : Nat) (Lt : Lc), i + n = 5 → AJ 4 0 0 mM_back (Vo (S0 N) (wr M 35 (6 * k) (bkV M0 M k) 5)) 0 0 2 [some (.inr 24), some (.inl k), some (.inl (i + 1))] [] (S0 N) (wr M 35 (6 * k) (bkV M0 M k) i) := by
  intro n
  induction n with
  | zero =>
    intro i Lt hi
    have : i = 5 := by omega
    subst this
    refine aM_back [2] 30 (fun hM => ?_)
    exact ⟨by decide, vo_eq rfl⟩
  | succ n ih =>
    intro i Lt hi
    have hl7 := hL.2.2.2.1
    have hA1 : Agr M0 (wr M 35 (6 * k) (bkV M0 M k) i) := hA.wr (by omega) _ _ _
    have e247 : (wr M 35 (6 * k) (bkV M0 M k) i) 24 7 = M0 24 7 := hA1 24 7 (by omega)
    have fin : ∀ v : Int, 0 ≤ v → v ≤ 1000000 → v = bkV M0 M k (i + 1) → AJ 4 0 0 mM_back (Vo (S0 N) (wr M 35 (6 * k) (bkV M0 M k) 5)) 0 0 82 [some (.inr 24), some (.inl k), some (.inl (i + 1)), some (.inl v)] [] (S0 N) (wr M 35 (6 * k) (bkV M0 M k) i) := by
      intro v hv0 hv1 hv
      refine aM_back [2] 30 (fun hM => ?_)
      refine ⟨⟨by decide, by omega, by omega, by omega, by omega⟩, ?_⟩
      have h2 := ih (i + 1) [] (by omega)
      rw [show ((i + 1 : Nat) : Int) = (i : Int) + 1 by omega] at h2
      rw [wr_step (by omega) hv]
      exact AJ.wk h2 ⟨rfl, rfl, rfl, trivial⟩
    refine aM_back [82, 27] 40 (fun hM => ?_)
    refine ⟨by omega, ite_i (fun q => by omega) (fun q => ?_)⟩
    refine ⟨by omega, ite_i (fun q => ?_) (fun q => ?_)⟩
    · have e0 : bkV M0 M k (i + 1) = 0 := by unfold bkV; rw [if_pos (by omega)]
      have f0 := fin 0 (by omega) (by omega) e0.symm
      have inner : AJ 4 0 0 mM_back (Vo (S0 N) (wr M 35 (6 * k) (bkV M0 M k) 5)) 0 0 27 [some (.inr 24), some (.inl k), some (.inl (i + 1)), some (.inl 0), some (.inl 1)] [] (S0 N) (wr M 35 (6 * k) (bkV M0 M k) i) := by
        refine aM_back [82] 40 (fun hM => ?_)
        refine ⟨by decide, ⟨by omega, by omega⟩, ite_i (fun q => by omega) (fun q => ?_)⟩
        exact AJ.wk f0 ⟨rfl, rfl, rfl, rfl, trivial⟩
      exact inner
    · have hB1 := hB (by omega)
      have haf : ∀ g, 1 ≤ g → g ≤ 5 → aft (wr M 35 (6 * k) (bkV M0 M k) i) (k + 1) g = aft M (k + 1) g := fun g q1 q2 => aft_congr (wr_ne (by omega)) (wr_ne (by omega)) (wr_ne (by omega)) (wr_ne (by omega))
      have e1 : bkV M0 M k (i + 1) = m5 (fun g => goM M0 k (i + 1) g + aft M (k + 1) g) := by unfold bkV; rw [if_neg (by omega)]
      have hr := m5_rng (φ := fun g => goM M0 k (i + 1) g + aft M (k + 1) g) (fun g q1 q2 => by
        have := hB1 g q1 q2
        have := goM_rng hL.1 (k := k) (f := i + 1) (by omega) (by omega) q1 q2
        omega)
      refine AJ.wk (z_back_inner (φ := fun g => goM M0 k (i + 1) g + aft M (k + 1) g) hA1 hL h0 (by omega) (by omega) (by omega) (fun g q1 q2 => by rw [haf g q1 q2]; exact hB1 g q1 q2) (fun g q1 q2 => by rw [haf g q1 q2]) 5 1 1000000 none (by omega) (by omega) (by omega) (by omega) ?_) ⟨rfl, rfl, rfl, rfl, rfl, trivial⟩
      exact fin _ hr.1 hr.2 e1.symm
theorem z_back (hA : Agr M0 M) (hL : LOk M0) (h0 : 0 ≤ k) (h1 : k < M0 24 7) (hB : k + 1 < M0 24 7 → ∀ g, 1 ≤ g → g ≤ 5 → 0 ≤ aft M (k + 1) g ∧ aft M (k + 1) g ≤ 2000000) : Ret 4 0 0 mM_back [.inr 24, .inl k] (S0 N) M (Vo (S0 N) (wr M 35 (6 * k) (bkV M0 M k) 5)) := by
  refine eM_back [2] 30 (Nat.le_of_ble_eq_true rfl) (fun hM => ?_)
  have h2 := z_back_outer (N := N) hA hL h0 h1 hB 5 0 [] (by omega)
  rw [show ((0 : Nat) : Int) = 0 from rfl, wr_0] at h2
  exact h2
end Back
