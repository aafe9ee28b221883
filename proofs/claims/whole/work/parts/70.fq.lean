/-! ===== finite and equal, or both infinite ===== -/
def FQ (k a r : Int) : Prop := (a = r ∧ 0 ≤ r ∧ r ≤ k) ∨ (100000 ≤ a ∧ 1000000 ≤ r)
theorem FQ.add {k l a r b s : Int} (hk : 0 ≤ k) (hl : 0 ≤ l) (h1 : FQ k a r) (h2 : FQ l b s) : FQ (k + l) (a + b) (r + s) := by
  unfold FQ at *; omega
theorem FQ.mono {k l a r : Int} (h : k ≤ l) (h1 : FQ k a r) : FQ l a r := by
  unfold FQ at *; omega
theorem fq_fold {k : Int} (hk : k < 100000) {φ ψ : Int → Int} : ∀ (n : Nat) (g a r : Int), (∀ i, g ≤ i → i < g + n → FQ k (φ i) (ψ i)) → ((a = r ∧ 0 ≤ r ∧ r ≤ k) ∨ (a = 100000 ∧ r = 1000000)) → ((cmf φ n g a = mfr ψ n g r ∧ 0 ≤ mfr ψ n g r ∧ mfr ψ n g r ≤ k) ∨ (cmf φ n g a = 100000 ∧ mfr ψ n g r = 1000000)) := by
  intro n
  induction n with
  | zero => intro g a r _ h; exact h
  | succ n ih =>
    intro g a r h hl
    have h0 := h g (by omega) (by omega)
    unfold cmf mfr
    refine ih _ _ _ (fun i q1 q2 => h i (by omega) (by omega)) ?_
    unfold FQ at h0
    unfold mn
    split <;> omega
theorem fq_min {k : Int} (hk : k < 100000) {φ ψ : Int → Int} (h : ∀ g, 1 ≤ g → g ≤ 5 → FQ k (φ g) (ψ g)) : FQ k (c5 φ) (m5 ψ) := by
  have := fq_fold hk (φ := φ) (ψ := ψ) 5 1 100000 1000000 (fun i q1 q2 => h i q1 (by omega)) (Or.inr ⟨rfl, rfl⟩)
  unfold c5 m5 FQ
  omega
