/-! ===== the reference: tied and stuck ===== -/
/-- what the notes up to k cost, the last with finger f -/
def nxV (M : Mm) (T : Int → Int) (k : Int) (g : Int) : Int := if okM M (k + 1) g then m5 (fun f => T f + stM M k f g) + ncM M (k + 1) g else 1000000
def up (M : Mm) : Nat → Int → Int
  | 0, f => if okM M 0 f then ncM M 0 f else 1000000
  | k + 1, g => clp (nxV M (up M k) (k : Int) g)
section Stuck
variable {N : Nat} {M0 M : Mm}
theorem nxV_rng (hI : RuI M0) {T : Int → Int} (hT : ∀ f, 1 ≤ f → f ≤ 5 → 0 ≤ T f ∧ T f ≤ 1000000) {k g : Int} (hg0 : 1 ≤ g) (hg1 : g ≤ 5) : 0 ≤ nxV M0 T k g ∧ nxV M0 T k g ≤ 1000020 := by
  have h2 := ncv_rng hI (M0 31 (k + 1)) g
  have h1 := m5_rng (φ := fun f => T f + stM M0 k f g) (fun f q1 q2 => by
    have := hT f q1 q2
    have := stv_rng hI (hand := M0 24 6) (a := M0 31 k) (b := M0 31 (k + 1)) q1 q2 hg0 hg1
    show 0 ≤ T f + stv _ _ _ _ _ _ _ _ _
    omega)
  unfold nxV
  split
  · unfold ncM; omega
  · omega
theorem up_rng (hI : RuI M0) : ∀ (k : Nat) (f : Int), 1 ≤ f → f ≤ 5 → 0 ≤ up M0 k f ∧ up M0 k f ≤ 1000000 := by
  intro k
  induction k with
  | zero =>
    intro f h1 h2
    have := ncv_rng hI (M0 31 0) f
    unfold up
    split
    · unfold ncM; omega
    · omega
  | succ k ih =>
    intro f h1 h2
    have := nxV_rng hI ih (k := k) h1 h2
    unfold up clp
    split <;> omega
theorem z_begin (hA : Agr M0 M) (hL : LOk M0) (hn : 0 < M0 24 7) : Ret 2 0 0 mM_begin [.inr 24] (S0 N) M (Vo (S0 N) (wr M 33 0 (up M0 0) 5)) := by
  have loop : ∀ (n i : Nat), i + n = 5 → AJ 2 0 0 mM_begin (Vo (S0 N) (wr M 33 0 (up M0 0) 5)) 0 0 2 [some (.inr 24), some (.inl (i + 1))] [] (S0 N) (wr M 33 0 (up M0 0) i) := by
    intro n
    induction n with
    | zero =>
      intro i hi
      have : i = 5 := by omega
      subst this
      refine aM_begin [2] 30 (fun hM => ?_)
      exact ⟨by decide, vo_eq rfl⟩
    | succ n ih =>
      intro i hi
      have hA1 : Agr M0 (wr M 33 0 (up M0 0) i) := hA.wr (by omega) _ _ _
      have e31 := hA1.c 31 (by omega)
      have e30 := hA1.c 30 (by omega)
      have a := hL.2.2.2.2 0 (by omega) hn
      have hr := up_rng hL.1 0 (i + 1) (by omega) (by omega)
      have h2 := ih (i + 1) (by omega)
      rw [show ((i + 1 : Nat) : Int) = (i : Int) + 1 by omega] at h2
      have e0 : up M0 0 (i + 1) = if okM M0 0 (i + 1) then ncM M0 0 (i + 1) else 1000000 := rfl
      refine aM_begin [2] 40 (fun hM => ?_)
      refine ⟨by omega, ite_i (fun q => by omega) (fun q => ?_)⟩
      refine CL.bl (z_isOf hA1 (by omega) (by omega)) (Nat.le_of_ble_eq_true rfl) (fun q2 => ?_) (fun q2 => ?_)
      · refine ⟨R32_1, by omega, ?_⟩
        refine CL.pu (z_noteCost (RuI.agr hA1 hL.1) (by rw [e31]; omega) (by rw [e31]; omega) (by omega)) (Nat.le_of_ble_eq_true rfl) ?_
        rw [if_pos q2] at e0
        have ev : ncv ((wr M 33 0 (up M0 0) i) 30) ((wr M 33 0 (up M0 0) i) 31 0) (i + 1) = up M0 0 (i + 1) := by rw [e31, e30, e0]
        refine ⟨⟨by decide, by omega, by omega, by omega, by omega⟩, ?_⟩
        rw [show (i : Int) + 1 = 0 + (i + 1) by omega, wr_step (by omega) (by rw [show (0 : Int) + (i + 1) = i + 1 by omega]; exact ev), show (0 : Int) + (i + 1) = i + 1 by omega]
        exact h2
      · rw [if_neg q2] at e0
        refine ⟨R32_0, ⟨by decide, by omega, by omega, by omega, by omega⟩, ?_⟩
        rw [show (i : Int) + 1 = 0 + (i + 1) by omega, wr_step (by omega) (by rw [e0]), show (0 : Int) + (i + 1) = i + 1 by omega]
        exact h2
  refine eM_begin [2] 30 (Nat.le_of_ble_eq_true rfl) (fun hM => ?_)
  have h2 := loop 5 0 (by omega)
  rw [show ((0 : Nat) : Int) = 0 from rfl, wr_0] at h2
  exact h2
theorem z_leastUp (hB : ∀ g, 1 ≤ g → g ≤ 5 → 0 ≤ M 33 g ∧ M 33 g ≤ 1000000) : Ret 0 0 0 mM_leastUp [.inr 24] (S0 N) M (Pu (S0 N) M (m5 (M 33))) := by
  have loop : ∀ (n : Nat) (g l : Int), g + n = 6 → 1 ≤ g → 0 ≤ l → l ≤ 1000000 → AJ 0 0 0 mM_leastUp (Pu (S0 N) M (mfr (M 33) n g l)) 0 0 5 [some (.inr 24), some (.inl l), some (.inl g)] [] (S0 N) M := by
    intro n
    induction n with
    | zero =>
      intro g l hg hg1 hl0 hl1
      have : g = 6 := by omega
      subst this
      refine aM_leastUp [] 30 (fun hM => ?_)
      exact ⟨by decide, pu_eq rfl⟩
    | succ n ih =>
      intro g l hg hg1 hl0 hl1
      have hr := hB g hg1 (by omega)
      refine aM_leastUp [5] 30 (fun hM => ?_)
      refine ⟨by omega, ite_i (fun q => by omega) (fun q => ?_)⟩
      refine ⟨by omega, by omega, ite_i (fun q => ?_) (fun q => ?_)⟩
      · refine ⟨by omega, ?_⟩
        have := ih (g + 1) (M 33 g) (by omega) (by omega) (by omega) (by omega)
        unfold mfr mn
        rw [if_pos q]; exact this
      · have := ih (g + 1) l (by omega) (by omega) (by omega) (by omega)
        unfold mfr mn
        rw [if_neg q]; exact this
  refine eM_leastUp [5] 30 (Nat.le_of_ble_eq_true rfl) (fun hM => ?_)
  exact loop 5 1 1000000 (by omega) (by omega) (by omega) (by omega)
end Stuck
