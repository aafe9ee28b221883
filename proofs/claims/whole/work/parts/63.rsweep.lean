/-! ===== the class: the table is swept ===== -/
/-- the least of five, from b on (FAR is b) -/
def cmf (φ : Int → Int) : Nat → Int → Int → Int
  | 0, _, l => l
  | n + 1, g, l => cmf φ n (g + 1) (min l (φ g))
def c5 (φ : Int → Int) : Int := cmf φ 5 1 100000
theorem cmf_congr {φ ψ : Int → Int} : ∀ (n : Nat) (g l : Int), (∀ i, g ≤ i → i < g + n → φ i = ψ i) → cmf φ n g l = cmf ψ n g l := by
  intro n
  induction n with
  | zero => intro g l h; rfl
  | succ n ih =>
    intro g l h
    unfold cmf
    rw [h g (by omega) (by omega)]
    exact ih _ _ (fun i h1 h2 => h i (by omega) (by omega))
theorem c5_congr {φ ψ : Int → Int} (h : ∀ g, 1 ≤ g → g ≤ 5 → φ g = ψ g) : c5 φ = c5 ψ := cmf_congr 5 1 _ (fun i h1 h2 => h i h1 (by omega))
theorem cmf_rng {φ : Int → Int} : ∀ (n : Nat) (g l : Int), (∀ i, g ≤ i → i < g + n → 0 ≤ φ i) → 0 ≤ l → l ≤ 100000 → 0 ≤ cmf φ n g l ∧ cmf φ n g l ≤ 100000 := by
  intro n
  induction n with
  | zero => intro g l h h1 h2; exact ⟨h1, h2⟩
  | succ n ih =>
    intro g l h h1 h2
    have h3 := h g (by omega) (by omega)
    exact ih _ _ (fun i q1 q2 => h i (by omega) (by omega)) (by omega) (by omega)
theorem c5_rng {φ : Int → Int} (h : ∀ g, 1 ≤ g → g ≤ 5 → 0 ≤ φ g) : 0 ≤ c5 φ ∧ c5 φ ≤ 100000 := cmf_rng 5 1 _ (fun i h1 h2 => h i h1 (by omega)) (by omega) (by omega)
/-- what is behind note m with finger f (fingers 1 to 5) -/
def cbV (M : Mm) (m f : Int) : Int := if m + 1 < M 13 6 then c5 (fun g => M 15 (25 * m + 5 * f + g - 6) + M 16 (5 * (m + 1) + g - 1)) else 0
section Rs
variable {N : Nat} {M : Mm}
theorem t_costBehind {m f : Int} (h0 : 0 ≤ m) (h1 : m < 30) (h6 : M 13 6 ≤ 30) (hf0 : 0 ≤ f) (hf1 : f ≤ 4) (hB : m + 1 < M 13 6 → ∀ g, 1 ≤ g → g ≤ 5 → (0 ≤ M 15 (25 * m + 5 * (f + 1) + g - 6) ∧ M 15 (25 * m + 5 * (f + 1) + g - 6) ≤ 10000000) ∧ 0 ≤ M 16 (5 * (m + 1) + g - 1) ∧ M 16 (5 * (m + 1) + g - 1) ≤ 10000000) : Ret 2 0 0 mR_costBehind [.inr 13, .inl m, .inl f] (S0 N) M (Pu (S0 N) M (cbV M m (f + 1))) := by
  have loop : m + 1 < M 13 6 → ∀ (n : Nat) (g l : Int), g + n = 5 → 0 ≤ g → 0 ≤ l → l ≤ 100000 → AJ 2 0 0 mR_costBehind (Pu (S0 N) M (cmf (fun g => M 15 (25 * m + 5 * (f + 1) + g - 6) + M 16 (5 * (m + 1) + g - 1)) n (g + 1) l)) 0 0 69 [some (.inr 13), some (.inl m), some (.inl f), some (.inl ((m * 5 + f) * 5)), some (.inl ((m + 1) * 5)), some (.inl l), some (.inl g)] [] (S0 N) M := by
    intro hm n
    induction n with
    | zero =>
      intro g l hg g0 l0 l1
      have : g = 5 := by omega
      subst this
      refine aR_costBehind [] 40 (fun hM => ?_)
      exact ⟨by decide, pu_eq rfl⟩
    | succ n ih =>
      intro g l hg g0 l0 l1
      have hb := hB hm (g + 1) (by omega) (by omega)
      have e1 : (m * 5 + f) * 5 + g = 25 * m + 5 * (f + 1) + (g + 1) - 6 := by omega
      have e2 : (m + 1) * 5 + g = 5 * (m + 1) + (g + 1) - 1 := by omega
      have h2 := ih (g + 1) (min l (M 15 (25 * m + 5 * (f + 1) + (g + 1) - 6) + M 16 (5 * (m + 1) + (g + 1) - 1))) (by omega) (by omega) (by omega) (by omega)
      rw [← e1, ← e2] at h2 hb
      unfold cmf
      rw [← e1, ← e2]
      refine aR_costBehind [69] 40 (fun hM => ?_)
      refine ⟨by omega, ite_i (fun _ => ?_) (fun q => by omega)⟩
      refine ⟨by omega, by omega, by omega, ?_⟩
      exact h2
  refine eR_costBehind [69] 60 (Nat.le_of_ble_eq_true rfl) (fun hM => ?_)
  refine ⟨⟨by omega, hM _ _⟩, ite_i (fun q => ?_) (fun q => ?_)⟩
  · have L := loop q 5 0 100000 (by omega) (by omega) (by omega) (by omega)
    refine ⟨by omega, ite_i (fun z => by omega) (fun _ => ?_)⟩
    refine ⟨by omega, ite_i (fun z => by omega) (fun _ => ?_)⟩
    refine ⟨by omega, ite_i (fun z => by omega) (fun _ => ?_)⟩
    refine ⟨by omega, ite_i (fun z => by omega) (fun _ => ?_)⟩
    have e : cbV M m (f + 1) = cmf (fun g => M 15 (25 * m + 5 * (f + 1) + g - 6) + M 16 (5 * (m + 1) + g - 1)) 5 (0 + 1) 100000 := by unfold cbV; rw [if_pos q]; rfl
    rw [e]
    exact L
  · exact pu_eq (by unfold cbV; rw [if_neg q])
end Rs
