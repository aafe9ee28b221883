/-! ===== the reference writes its best row ===== -/
/-- M0 with the row of fingers of M -/
def P9 (M0 M : Mm) : Mm := fun c j => if c = 39 then M 39 j else M0 c j
theorem P9_o {M0 M : Mm} (c : Nat) (hc : c ≠ 39) : P9 M0 M c = M0 c := by funext j; simp [P9, hc]
def Ag9 (M0 M : Mm) : Prop := ∀ c j, c < 33 ∨ 37 < c → c ≠ 39 → M c j = M0 c j
theorem Ag9.p {M0 M : Mm} (h : Ag9 M0 M) : Agr (P9 M0 M) M := by
  intro c j hc
  by_cases h9 : c = 39
  · subst h9; simp [P9]
  · rw [P9_o c h9]; exact h c j hc h9
theorem P9_go {M0 M : Mm} : goM (P9 M0 M) = goM M0 := by
  funext k f g; unfold goM stM ncM okM; rw [P9_o 30 (by omega), P9_o 27 (by omega), P9_o 28 (by omega), P9_o 29 (by omega), P9_o 24 (by omega), P9_o 31 (by omega), P9_o 32 (by omega)]
theorem P9_st {M0 M : Mm} (k f g : Int) : stM (P9 M0 M) k f g = stM M0 k f g := by
  unfold stM; rw [P9_o 30 (by omega), P9_o 27 (by omega), P9_o 28 (by omega), P9_o 29 (by omega), P9_o 24 (by omega), P9_o 31 (by omega)]
theorem P9_js {M0 M : Mm} : jsM (P9 M0 M) = jsM M0 := by
  funext k f g; unfold jsM okM; rw [P9_go, P9_o 24 (by omega), P9_o 32 (by omega)]
theorem P9_rsT {M0 M : Mm} : rsT (P9 M0 M) = rsT M0 := by
  funext k f; unfold rsT; rw [P9_go, P9_o 24 (by omega)]
theorem P9_rsX {M0 M : Mm} : rsX (P9 M0 M) = rsX M0 := by
  funext x k f; unfold rsX; rw [P9_go, P9_o 24 (by omega)]
  simp only [P9_st]
theorem P9_jtX {M0 M : Mm} : jtX (P9 M0 M) = jtX M0 := by
  funext x k f; unfold jtX; rw [P9_js, P9_rsX, P9_rsT, P9_o 24 (by omega)]
theorem P9_wtX {M0 M : Mm} : wtX (P9 M0 M) = wtX M0 := by
  funext x; unfold wtX okM ncM; rw [P9_jtX, P9_o 24 (by omega), P9_o 32 (by omega), P9_o 31 (by omega), P9_o 30 (by omega)]
theorem P9_ru {M0 M : Mm} (h : RuI M0) : RuI (P9 M0 M) := by
  unfold RuI at *
  rw [P9_o 3 (by omega), P9_o 4 (by omega), P9_o 27 (by omega), P9_o 28 (by omega), P9_o 29 (by omega), P9_o 30 (by omega)]; exact h
theorem P9_L {M0 M : Mm} (h : LOk M0) : LOk (P9 M0 M) := by
  obtain ⟨l1, l2⟩ := h
  refine ⟨P9_ru l1, ?_⟩
  rw [P9_o 24 (by omega), P9_o 31 (by omega)]; exact l2
theorem P9_T {M0 M : Mm} (h : TOk M0) : TOk (P9 M0 M) := by
  unfold TOk at *; rw [P9_o 24 (by omega)]; exact h
section Find
variable {N : Nat} {M0 : Mm} {a : Int}
/-- a finger written -/
theorem Ag9.w {M0 M : Mm} (h : Ag9 M0 M) (j v : Int) : Ag9 M0 (mset M 39 j v) := fun c i hc h9 => by rw [mset_ne (by omega)]; exact h c i hc h9
/-- the row so far: fingers 1 to 5 at places lo to k -/
abbrev pf (M : Mm) (a : Int) : Int → Int := fun k => M 39 (a + k)
theorem z_step9 {M : Mm} {k : Int} (hA : Ag9 M0 M) (hL : LOk M0) (h0 : 0 ≤ k) (h1 : k + 1 < M0 24 7) (hf0 : 1 ≤ M 39 (a + k)) (hf1 : M 39 (a + k) ≤ 5) {V : Int → Int → Int} (hV : ∀ g, 1 ≤ g → g ≤ 5 → aft M (k + 1) g = V (k + 1) g) (hr : ∀ g, 1 ≤ g → g ≤ 5 → 0 ≤ V (k + 1) g ∧ V (k + 1) g ≤ 1000000) (hk : aft M k (M 39 (a + k)) = V k (M 39 (a + k))) (hm : V k (M 39 (a + k)) = m5 (fun g => goM M0 k (M 39 (a + k)) g + V (k + 1) g)) (hlt : V k (M 39 (a + k)) < 1000000) :
    ∃ gs, Fst (fun g => goM M0 k (M 39 (a + k)) g + V (k + 1) g) (V k (M 39 (a + k))) gs ∧ V (k + 1) gs < 1000000 ∧ Ret 4 0 0 mM_fingerBehind [.inr 24, .inl k, .inl (M 39 (a + k))] (S0 N) M (Pu (S0 N) M gs) := by
  obtain ⟨gs, hF⟩ := m5_at (φ := fun g => goM M0 k (M 39 (a + k)) g + V (k + 1) g) (by rw [← hm]; exact hlt)
  rw [← hm] at hF
  have hgo := goM_rng hL.1 (k := k) hf0 hf1 hF.1 hF.2.1
  have hvr := hr gs hF.1 hF.2.1
  have heq : goM M0 k (M 39 (a + k)) gs + V (k + 1) gs = V k (M 39 (a + k)) := hF.2.2.1
  have hr0 : 0 ≤ V k (M 39 (a + k)) := by omega
  refine ⟨gs, hF, by omega, ?_⟩
  refine z_fingerBehind hA.p (P9_L hL) h0 (by rw [P9_o 24 (by omega)]; exact h1) hf0 hf1 (fun g q1 q2 => ?_) (by rw [hk]; omega) ?_
  · rw [hV g q1 q2]; have := hr g q1 q2; omega
  · rw [P9_go, hk]
    exact hF.congr (fun g q1 q2 => by rw [hV g q1 q2])
theorem z_ff_start {M : Mm} {gs : Int} {Φ : Option Vl → Ly → Mm → Prop} (h : RT M0 M) (ht : M0 24 12 = 0 ∨ TOk M0) (hL : LOk M0) (hn : 0 < M0 24 7) (hF : Fst (stC M0) (tot M0) gs) (kk : AJ 8 0 0 mM_findFingers Φ 0 0 20 [some (.inr 24), some (.inl a), some (.inl gs)] [] (S0 N) M) :
    ∀ (n : Nat) (g : Int), g + n = gs → 1 ≤ g → AJ 8 0 0 mM_findFingers Φ 0 0 2 [some (.inr 24), some (.inl a), some (.inl g)] [] (S0 N) M := by
  intro n
  obtain ⟨g0, g1, g2, g3⟩ := hF
  have htr := tot_rng ht hL hn
  induction n with
  | zero =>
    intro g hg hg0
    have : g = gs := by omega
    subst this
    have hr := stC_rng ht hL hn g0 g1
    refine aM_findFingers [20] 30 (fun hM => ?_)
    refine CL.pu (z_startCost h ht hL hn g0 g1) (Nat.le_of_ble_eq_true rfl) ?_
    refine CL.pu (z_leastStart h ht hL hn) (Nat.le_of_ble_eq_true rfl) ?_
    exact ⟨by omega, ite_i (fun q => kk) (fun q => absurd g2 q)⟩
  | succ n ih =>
    intro g hg hg0
    have hr := stC_rng ht hL hn hg0 (show g ≤ 5 by omega)
    refine aM_findFingers [2] 30 (fun hM => ?_)
    refine CL.pu (z_startCost h ht hL hn hg0 (by omega)) (Nat.le_of_ble_eq_true rfl) ?_
    refine CL.pu (z_leastStart h ht hL hn) (Nat.le_of_ble_eq_true rfl) ?_
    exact ⟨by omega, ite_i (fun q => absurd q (g3 g hg0 (by omega))) (fun q => ih (g + 1) (by omega) (by omega))⟩
/-- the loop of findFingers, with a table V -/
theorem z_ff_loop {V : Int → Int → Int} {hi : Int} {Φ : Option Vl → Ly → Mm → Prop} (hL : LOk M0) (ha : a = 0 ∨ a = 30) (hhi : hi + 1 ≤ M0 24 7) {Ma : Mm} (hAa : Ag9 M0 Ma) (hV : ∀ M, (∀ c j, c ≠ 39 → M c j = Ma c j) → ∀ k g, 0 ≤ k → k ≤ hi → 1 ≤ g → g ≤ 5 → aft M k g = V k g) (hr : ∀ k g, 0 ≤ k → k ≤ hi → 1 ≤ g → g ≤ 5 → 0 ≤ V k g ∧ V k g ≤ 1000000) (hm : ∀ k f, 0 ≤ k → k < hi → V k f = m5 (fun g => goM M0 k f g + V (k + 1) g))
    (kk : ∀ M f, (∀ c j, ¬ (c = 39 ∧ a + 1 ≤ j ∧ j ≤ a + hi) → M c j = Ma c j) → (∀ k, 0 ≤ k → k ≤ hi → 1 ≤ M 39 (a + k) ∧ M 39 (a + k) ≤ 5) → V hi (M 39 (a + hi)) < 1000000 → (∀ k, 0 ≤ k → k < hi → Fst (fun g => goM M0 k (M 39 (a + k)) g + V (k + 1) g) (V k (M 39 (a + k))) (M 39 (a + k + 1))) → AJ 8 0 0 mM_findFingers Φ 0 0 86 [some (.inr 24), some (.inl a), some (.inl f)] [] (S0 N) M) :
    ∀ (n : Nat) (k f0 : Int) (M : Mm), k + n = hi → 0 ≤ k → (∀ c j, ¬ (c = 39 ∧ a + 1 ≤ j ∧ j ≤ a + k) → M c j = Ma c j) → (∀ i, 0 ≤ i → i ≤ k → 1 ≤ M 39 (a + i) ∧ M 39 (a + i) ≤ 5) → V k (M 39 (a + k)) < 1000000 → (∀ i, 0 ≤ i → i < k → Fst (fun g => goM M0 i (M 39 (a + i)) g + V (i + 1) g) (V i (M 39 (a + i))) (M 39 (a + i + 1))) → AJ 8 0 0 mM_findFingers Φ 0 0 51 [some (.inr 24), some (.inl a), some (.inl f0), some (.inl k), some (.inl hi)] [] (S0 N) M := by
  intro n
  have l4 := hL.2.2.2.1
  induction n with
  | zero =>
    intro k f0 M hk h0 hMa hp hlt hc
    have : k = hi := by omega
    subst this
    refine aM_findFingers [86] 30 (fun hM => ?_)
    refine ⟨by omega, ite_i (fun q => by omega) (fun q => ?_)⟩
    exact AJ.wk (kk M f0 hMa hp hlt hc) ⟨rfl, rfl, rfl, trivial⟩
  | succ n ih =>
    intro k f0 M hk h0 hMa hp hlt hc
    have hA : Ag9 M0 M := fun c j q1 q2 => by rw [hMa c j (by omega)]; exact hAa c j q1 q2
    have hpk := hp k h0 (Int.le_refl _)
    have hV1 := hV M (fun c j q => hMa c j (by omega))
    obtain ⟨gs, hF, hl2, hR⟩ := z_step9 (N := N) (a := a) (k := k) hA hL h0 (by omega) hpk.1 hpk.2 (V := V) (fun g q1 q2 => hV1 (k + 1) g (by omega) (by omega) q1 q2) (fun g q1 q2 => hr (k + 1) g (by omega) (by omega) q1 q2) (hV1 k _ h0 (by omega) hpk.1 hpk.2) (hm k _ h0 (by omega)) hlt
    have hg := hF.1
    have hg' := hF.2.1
    have e1 : ∀ i, i ≤ k → (mset M 39 (a + k + 1) gs) 39 (a + i) = M 39 (a + i) := fun i q => mset_ne (by omega)
    have e2 : (mset M 39 (a + k + 1) gs) 39 (a + (k + 1)) = gs := by rw [show a + (k + 1) = a + k + 1 by omega, mset_eq]
    refine aM_findFingers [51] 40 (fun hM => ?_)
    refine ⟨by omega, ite_i (fun q => ?_) (fun q => by omega)⟩
    refine ⟨by omega, CL.pu hR (Nat.le_of_ble_eq_true rfl) ?_⟩
    refine ⟨⟨by decide, by omega, by omega, by omega, by omega⟩, ?_⟩
    refine ih (k + 1) _ _ (by omega) (by omega) ?_ ?_ ?_ ?_
    · intro c j q
      rw [mset_ne (by omega)]; exact hMa c j (by omega)
    · intro i q1 q2
      by_cases hi2 : i = k + 1
      · subst hi2; rw [e2]; omega
      · rw [e1 i (by omega)]; exact hp i q1 (by omega)
    · rw [e2]; exact hl2
    · intro i q1 q2
      by_cases hi2 : i = k
      · subst hi2
        rw [e1 i (by omega), mset_eq]; exact hF
      · rw [e1 i (by omega), show a + i + 1 = a + (i + 1) by omega, e1 (i + 1) (by omega)]
        have := hc i q1 (by omega)
        rw [show a + i + 1 = a + (i + 1) by omega] at this
        exact this
end Find
