def A0 (M : Mm) (f : Int) : Int := if 0 < M 24 12 then rsH M 0 f else rsT M 0 f
def stC (M : Mm) (f : Int) : Int := if okM M 0 f then ncM M 0 f + A0 M f else 1000000
def tot (M : Mm) : Int := m5 (stC M)
def lrV (M : Mm) : Int := if M 24 7 = 0 then 0 else if tot M < 1000000 then tot M else -9
/-- the tables behind leastRow, with a tie -/
def FT (M0 M : Mm) : Prop := (∀ k f, M0 24 11 + M0 24 12 - 1 ≤ k → k ≤ M0 24 7 - 1 → 1 ≤ f → f ≤ 5 → M 35 (6 * k + f) = rsT M0 k f) ∧ (∀ f, 1 ≤ f → f ≤ 5 → M 37 f = wtX M0 f) ∧ ∀ k f, 0 ≤ k → k ≤ M0 24 10 - 1 → 1 ≤ f → f ≤ 5 → M 35 (6 * k + f) = rsH M0 k f
/-- without -/
def UT (M0 M : Mm) : Prop := ∀ k f, 0 ≤ k → k ≤ M0 24 7 - 1 → 1 ≤ f → f ≤ 5 → M 35 (6 * k + f) = rsT M0 k f
section Row
variable {N : Nat} {M0 : Mm}
theorem z_tie_l1 {Ma : Mm} {Φ : Option Vl → Ly → Mm → Prop} (hA : Agr M0 Ma) (hT : TOk M0) (hL : LOk M0)
    (kk : ∀ Mb, BK Ma Mb (M0 24 11 + M0 24 12 - 1) (M0 24 7 - 1) (rsT M0) → AJ 7 0 0 mM_findTie Φ 0 0 33 [some (.inr 24)] [] (S0 N) Mb) :
    ∀ (n : Nat) (k : Int) (Mk : Mm), k + 1 = M0 24 11 + M0 24 12 - 1 + n → k ≤ M0 24 7 - 1 → BK Ma Mk (k + 1) (M0 24 7 - 1) (rsT M0) → AJ 7 0 0 mM_findTie Φ 0 0 7 [some (.inr 24), some (.inl k)] [] (S0 N) Mk := by
  intro n
  obtain ⟨t1, t2, t3, t4⟩ := id hT
  have l4 := hL.2.2.2.1
  induction n with
  | zero =>
    intro k Mk hk hk2 hB
    have hA1 := hB.agr hA
    have e11 := hA1 24 11 (by omega)
    have e12 := hA1 24 12 (by omega)
    refine aM_findTie [33] 30 (fun hM => ?_)
    refine ⟨by omega, ite_i (fun q => ?_) (fun q => by omega)⟩
    refine AJ.wk (kk Mk ?_) ⟨rfl, trivial⟩
    rw [show k + 1 = M0 24 11 + M0 24 12 - 1 by omega] at hB
    exact hB
  | succ n ih =>
    intro k Mk hk hk2 hB
    have hA1 := hB.agr hA
    have e11 := hA1 24 11 (by omega)
    have e12 := hA1 24 12 (by omega)
    have e10 := hA1 24 10 (by omega)
    have haf : k + 1 < M0 24 7 → ∀ g, 1 ≤ g → g ≤ 5 → aft Mk (k + 1) g = rsT M0 (k + 1) g := by
      intro hk3 g h1 h2
      unfold aft
      rw [if_neg (by omega)]
      exact hB.1 (k + 1) g (by omega) (by omega) h1 h2
    have hV : ∀ f, 1 ≤ f → f ≤ 5 → bkV M0 Mk k f = rsT M0 k f := by
      intro f h1 h2
      unfold bkV rsT
      by_cases hl : k = M0 24 7 - 1
      · rw [if_pos hl, hl, bz_e]
      · rw [if_neg hl, bz_s (by omega)]
        exact m5_congr (fun g q1 q2 => by rw [haf (by omega) g q1 q2]; rfl)
    refine aM_findTie [7] 30 (fun hM => ?_)
    refine ⟨by omega, ite_i (fun q => by omega) (fun q => ?_)⟩
    refine CL.vo (z_back hA1 hL (by omega) (by omega) (fun q0 g q1 q2 => by
      have := rsT_rng hL.1 (k := k + 1) (by omega) q1 q2
      rw [haf q0 g q1 q2]; omega)) (Nat.le_of_ble_eq_true rfl) (fun hM => ?_)
    refine ih (k + -1) _ (by omega) (by omega) ?_
    rw [show k + -1 + 1 = k by omega]
    exact hB.st hk2 hV
/-- between: the end stands, with 1 to i stand -/
def FW (M0 M : Mm) (i : Int) : Prop := Agr M0 M ∧ (∀ k f, M0 24 11 + M0 24 12 - 1 ≤ k → k ≤ M0 24 7 - 1 → 1 ≤ f → f ≤ 5 → M 35 (6 * k + f) = rsT M0 k f) ∧ ∀ f, 1 ≤ f → f ≤ i → M 37 f = wtX M0 f
theorem WX.agr {M0 Ma Mb : Mm} {x : Int} (h : WX M0 Ma Mb x) (hA : Agr M0 Ma) : Agr M0 Mb := fun c j hc => by rw [h.2.2.2 c j (by omega) (by omega) (by omega)]; exact hA c j hc
theorem z_tie_l2 {Φ : Option Vl → Ly → Mm → Prop} (hT : TOk M0) (hL : LOk M0)
    (kk : ∀ Mb, FW M0 Mb 5 → AJ 7 0 0 mM_findTie Φ 0 0 51 [some (.inr 24)] [] (S0 N) Mb) :
    ∀ (n i : Nat) (Mk : Mm), i + n = 5 → FW M0 Mk i → AJ 7 0 0 mM_findTie Φ 0 0 35 [some (.inr 24), some (.inl (i + 1))] [] (S0 N) Mk := by
  intro n
  obtain ⟨t1, t2, t3, t4⟩ := id hT
  have l4 := hL.2.2.2.1
  induction n with
  | zero =>
    intro i Mk hi hW
    have : i = 5 := by omega
    subst this
    refine aM_findTie [51] 30 (fun hM => ?_)
    exact ⟨by decide, AJ.wk (kk Mk hW) ⟨rfl, trivial⟩⟩
  | succ n ih =>
    intro i Mk hi hW
    obtain ⟨w1, w2, w3⟩ := hW
    have h2 := ih (i + 1)
    rw [show ((i + 1 : Nat) : Int) = (i : Int) + 1 by omega] at h2
    refine aM_findTie [35] 30 (fun hM => ?_)
    refine ⟨by omega, ite_i (fun q => by omega) (fun q => ?_)⟩
    refine ⟨6, _, (Nat.le_of_ble_eq_true rfl), z_findWith w1 hT hL (by omega) (by omega) (fun f q1 q2 => w2 _ f (by omega) (by omega) q1 q2), ?_⟩
    rintro r S' M' ⟨rfl, rfl, hX⟩ hM
    refine h2 M' (by omega) ⟨hX.agr w1, fun k f q1 q2 q3 q4 => ?_, fun f q1 q2 => ?_⟩
    · rw [hX.2.2.2 35 _ (by omega) (by omega) (by omega)]; exact w2 k f q1 q2 q3 q4
    · by_cases hf : f = i + 1
      · rw [hf]; exact hX.2.2.1
      · rw [hX.2.2.2 37 f (by omega) (by omega) (by omega)]; exact w3 f q1 (by omega)
theorem z_tie_l3 {Ma : Mm} {Φ : Option Vl → Ly → Mm → Prop} (hA : Agr M0 Ma) (hT : TOk M0) (hL : LOk M0) (hw : ∀ f, 1 ≤ f → f ≤ 5 → Ma 37 f = wtX M0 f)
    (kk : ∀ Mb, BK Ma Mb 0 (M0 24 10 - 1) (rsH M0) → Φ none (S0 N) Mb) :
    ∀ (n : Nat) (k : Int) (Mk : Mm), k + 1 = n → k ≤ M0 24 10 - 1 → BK Ma Mk (k + 1) (M0 24 10 - 1) (rsH M0) → AJ 7 0 0 mM_findTie Φ 0 0 58 [some (.inr 24), some (.inl k)] [] (S0 N) Mk := by
  intro n
  obtain ⟨t1, t2, t3, t4⟩ := id hT
  have l4 := hL.2.2.2.1
  induction n with
  | zero =>
    intro k Mk hk hk2 hB
    refine aM_findTie [] 30 (fun hM => ?_)
    refine ⟨by omega, ite_i (fun q => ?_) (fun q => by omega)⟩
    refine kk Mk ?_
    rw [show k + 1 = 0 by omega] at hB
    exact hB
  | succ n ih =>
    intro k Mk hk hk2 hB
    have hA1 := hB.agr hA
    have e12 := hA1 24 12 (by omega)
    have e10 := hA1 24 10 (by omega)
    have haf : ∀ g, 1 ≤ g → g ≤ 5 → aft Mk (k + 1) g = rsH M0 (k + 1) g := by
      intro g h1 h2
      unfold aft
      by_cases hkk : k + 1 = M0 24 10
      · rw [if_pos (by omega), hB.2 37 g (by omega), hw g h1 h2, hkk]
        unfold rsH; rw [bz_e]
      · rw [if_neg (by omega)]
        exact hB.1 (k + 1) g (by omega) (by omega) h1 h2
    have hV : ∀ f, 1 ≤ f → f ≤ 5 → bkV M0 Mk k f = rsH M0 k f := by
      intro f h1 h2
      unfold bkV rsH
      rw [if_neg (by omega), bz_s (by omega)]
      exact m5_congr (fun g q1 q2 => by rw [haf g q1 q2]; rfl)
    refine aM_findTie [58] 30 (fun hM => ?_)
    refine ⟨by omega, ite_i (fun q => by omega) (fun q => ?_)⟩
    refine CL.vo (z_back hA1 hL (by omega) (by omega) (fun q0 g q1 q2 => by
      have := rsH_rng hL.1 hT (k := k + 1) (by omega) q1 q2
      rw [haf g q1 q2]; omega)) (Nat.le_of_ble_eq_true rfl) (fun hM => ?_)
    refine ih (k + -1) _ (by omega) (by omega) ?_
    rw [show k + -1 + 1 = k by omega]
    exact hB.st hk2 hV
theorem z_findTie {M : Mm} (hA : Agr M0 M) (hT : TOk M0) (hL : LOk M0) : Ret 7 0 0 mM_findTie [.inr 24] (S0 N) M (fun r S' M' => r = none ∧ S' = S0 N ∧ Agr M0 M' ∧ FT M0 M') := by
  obtain ⟨t1, t2, t3, t4⟩ := id hT
  have l4 := hL.2.2.2.1
  have c51 : ∀ Mb, FW M0 Mb 5 → AJ 7 0 0 mM_findTie (fun r S' M' => r = none ∧ S' = S0 N ∧ Agr M0 M' ∧ FT M0 M') 0 0 51 [some (.inr 24)] [] (S0 N) Mb := by
    intro Mb hW
    obtain ⟨w1, w2, w3⟩ := hW
    have e10 := w1 24 10 (by omega)
    refine aM_findTie [58] 30 (fun hM => ?_)
    conv => whnf
    rw [e10]
    refine z_tie_l3 w1 hT hL w3 (fun Mc hB => ⟨rfl, rfl, hB.agr w1, fun k f q1 q2 q3 q4 => ?_, fun f q1 q2 => ?_, fun k f q1 q2 q3 q4 => hB.1 k f q1 q2 q3 q4⟩) (M0 24 10).toNat _ _ (by omega) (by omega) (BK.rf _ _ (by omega))
    · rw [hB.2 35 _ (by omega)]; exact w2 k f q1 q2 q3 q4
    · rw [hB.2 37 _ (by omega)]; exact w3 f q1 q2
  have c33 : ∀ Mb, BK M Mb (M0 24 11 + M0 24 12 - 1) (M0 24 7 - 1) (rsT M0) → AJ 7 0 0 mM_findTie (fun r S' M' => r = none ∧ S' = S0 N ∧ Agr M0 M' ∧ FT M0 M') 0 0 33 [some (.inr 24)] [] (S0 N) Mb := by
    intro Mb hB
    refine aM_findTie [35] 30 (fun hM => ?_)
    exact z_tie_l2 hT hL c51 5 0 Mb (by omega) ⟨hB.agr hA, fun k f q1 q2 q3 q4 => hB.1 k f q1 q2 q3 q4, fun f q1 q2 => by omega⟩
  have e7 := hA 24 7 (by omega)
  refine eM_findTie [7] 30 (Nat.le_of_ble_eq_true rfl) (fun hM => ?_)
  conv => whnf
  rw [e7]
  exact z_tie_l1 hA hT hL c33 (M0 24 7 - (M0 24 11 + M0 24 12 - 1)).toNat _ _ (by omega) (by omega) (BK.rf _ _ (by omega))
/-- the tables stand -/
def RT (M0 M : Mm) : Prop := Agr M0 M ∧ (0 < M0 24 12 → FT M0 M) ∧ (M0 24 12 = 0 → UT M0 M)
theorem RT.a0 {M : Mm} (h : RT M0 M) (ht : M0 24 12 = 0 ∨ TOk M0) (hL : LOk M0) (hn : 0 < M0 24 7) {f : Int} (hf0 : 1 ≤ f) (hf1 : f ≤ 5) : aft M 0 f = A0 M0 f := by
  obtain ⟨h1, h2, h3⟩ := h
  have e10 := h1 24 10 (by omega)
  have e12 := h1 24 12 (by omega)
  unfold aft A0
  rw [e10, e12]
  rcases ht with ht | ht
  · rw [if_neg (by omega), if_neg (by omega)]
    exact h3 ht 0 f (by omega) (by omega) hf0 hf1
  · obtain ⟨t1, t2, t3, t4⟩ := id ht
    obtain ⟨g1, g2, g3⟩ := h2 t1
    rw [if_pos t1]
    by_cases h0 : 0 = M0 24 10
    · rw [if_pos ⟨t1, h0⟩, g2 f hf0 hf1]
      unfold rsH; rw [← h0, bz_e]
    · rw [if_neg (fun q => h0 q.2)]
      exact g3 0 f (by omega) (by omega) hf0 hf1
theorem A0_rng (ht : M0 24 12 = 0 ∨ TOk M0) (hL : LOk M0) (hn : 0 < M0 24 7) {f : Int} (hf0 : 1 ≤ f) (hf1 : f ≤ 5) : 0 ≤ A0 M0 f ∧ A0 M0 f ≤ 1000000 := by
  unfold A0
  rcases ht with ht | ht
  · rw [if_neg (by omega)]; exact rsT_rng hL.1 (by omega) hf0 hf1
  · obtain ⟨t1, t2, t3, t4⟩ := id ht
    rw [if_pos t1]; exact rsH_rng hL.1 ht (by omega) hf0 hf1
theorem stC_rng (ht : M0 24 12 = 0 ∨ TOk M0) (hL : LOk M0) (hn : 0 < M0 24 7) {f : Int} (hf0 : 1 ≤ f) (hf1 : f ≤ 5) : 0 ≤ stC M0 f ∧ stC M0 f ≤ 1000020 := by
  have h1 := A0_rng ht hL hn hf0 hf1
  have h2 := ncv_rng hL.1 (M0 31 0) f
  unfold stC
  split
  · unfold ncM; omega
  · omega
theorem z_startCost {f : Int} {M : Mm} (h : RT M0 M) (ht : M0 24 12 = 0 ∨ TOk M0) (hL : LOk M0) (hn : 0 < M0 24 7) (hf0 : 1 ≤ f) (hf1 : f ≤ 5) : Ret 2 0 0 mM_startCost [.inr 24, .inl f] (S0 N) M (Pu (S0 N) M (stC M0 f)) := by
  have hA := h.1
  have e31 := hA.c 31 (by omega)
  have e30 := hA.c 30 (by omega)
  have hk := hL.2.2.2.2 0 (by omega) hn
  refine eM_startCost [] 30 (Nat.le_of_ble_eq_true rfl) (fun hM => ?_)
  refine CL.bl (z_isOf hA (by omega) (by omega)) (Nat.le_of_ble_eq_true rfl) (fun q => ?_) (fun q => ?_)
  · refine ⟨R32_1, by omega, CL.pu (z_noteCost (RuI.agr hA hL.1) (by rw [e31]; omega) (by rw [e31]; omega) (by omega)) (Nat.le_of_ble_eq_true rfl) ?_⟩
    refine CL.pu (z_after (by omega) (by omega) hf0 hf1) (Nat.le_of_ble_eq_true rfl) (pu_eq ?_)
    unfold stC ncM; rw [if_pos q, h.a0 ht hL hn hf0 hf1, e31, e30]
  · refine ⟨R32_0, pu_eq ?_⟩
    unfold stC; rw [if_neg q]
theorem z_start_loop {M : Mm} (h : RT M0 M) (ht : M0 24 12 = 0 ∨ TOk M0) (hL : LOk M0) (hn : 0 < M0 24 7) : ∀ (n : Nat) (g l : Int), g + n = 6 → 1 ≤ g → 0 ≤ l → l ≤ 1000000 → AJ 3 0 0 mM_leastStart (Pu (S0 N) M (mfr (stC M0) n g l)) 0 0 5 [some (.inr 24), some (.inl l), some (.inl g)] [] (S0 N) M := by
  intro n
  induction n with
  | zero =>
    intro g l hg hg1 hl0 hl1
    have : g = 6 := by omega
    subst this
    refine aM_leastStart [] 30 (fun hM => ?_)
    exact ⟨by decide, pu_eq rfl⟩
  | succ n ih =>
    intro g l hg hg1 hl0 hl1
    have hr := stC_rng ht hL hn hg1 (show g ≤ 5 by omega)
    refine aM_leastStart [5] 30 (fun hM => ?_)
    refine ⟨by omega, ite_i (fun q => by omega) (fun q => ?_)⟩
    refine CL.pu (z_startCost h ht hL hn hg1 (by omega)) (Nat.le_of_ble_eq_true rfl) ?_
    refine ⟨by omega, ite_i (fun q => ?_) (fun q => ?_)⟩
    · refine CL.pu (z_startCost h ht hL hn hg1 (by omega)) (Nat.le_of_ble_eq_true rfl) ?_
      have := ih (g + 1) (stC M0 g) (by omega) (by omega) (by omega) (by omega)
      unfold mfr mn
      rw [if_pos q]; exact this
    · have := ih (g + 1) l (by omega) (by omega) (by omega) (by omega)
      unfold mfr mn
      rw [if_neg q]; exact this
theorem z_leastStart {M : Mm} (h : RT M0 M) (ht : M0 24 12 = 0 ∨ TOk M0) (hL : LOk M0) (hn : 0 < M0 24 7) : Ret 3 0 0 mM_leastStart [.inr 24] (S0 N) M (Pu (S0 N) M (tot M0)) := by
  refine eM_leastStart [5] 30 (Nat.le_of_ble_eq_true rfl) (fun hM => ?_)
  exact z_start_loop h ht hL hn 5 1 1000000 (by omega) (by omega) (by omega) (by omega)
theorem tot_rng (ht : M0 24 12 = 0 ∨ TOk M0) (hL : LOk M0) (hn : 0 < M0 24 7) : 0 ≤ tot M0 ∧ tot M0 ≤ 1000000 := m5_rng (fun g h1 h2 => (stC_rng ht hL hn h1 h2).1)
theorem z_row_loop {Ma : Mm} {Φ : Option Vl → Ly → Mm → Prop} (hA : Agr M0 Ma) (ht : M0 24 12 = 0) (hL : LOk M0)
    (kk : ∀ Mb, BK Ma Mb 0 (M0 24 7 - 1) (rsT M0) → AJ 8 0 0 mM_leastRow Φ 0 0 49 [some (.inr 24)] [] (S0 N) Mb) :
    ∀ (n : Nat) (k : Int) (Mk : Mm), k + 1 = n → k ≤ M0 24 7 - 1 → BK Ma Mk (k + 1) (M0 24 7 - 1) (rsT M0) → AJ 8 0 0 mM_leastRow Φ 0 0 27 [some (.inr 24), some (.inl k)] [] (S0 N) Mk := by
  intro n
  have l4 := hL.2.2.2.1
  induction n with
  | zero =>
    intro k Mk hk hk2 hB
    refine aM_leastRow [49] 30 (fun hM => ?_)
    refine ⟨by omega, ite_i (fun q => ?_) (fun q => by omega)⟩
    refine AJ.wk (kk Mk ?_) ⟨rfl, trivial⟩
    rw [show k + 1 = 0 by omega] at hB
    exact hB
  | succ n ih =>
    intro k Mk hk hk2 hB
    have hA1 := hB.agr hA
    have e12 := hA1 24 12 (by omega)
    have haf : k + 1 < M0 24 7 → ∀ g, 1 ≤ g → g ≤ 5 → aft Mk (k + 1) g = rsT M0 (k + 1) g := by
      intro hk3 g h1 h2
      unfold aft
      rw [if_neg (by omega)]
      exact hB.1 (k + 1) g (by omega) (by omega) h1 h2
    have hV : ∀ f, 1 ≤ f → f ≤ 5 → bkV M0 Mk k f = rsT M0 k f := by
      intro f h1 h2
      unfold bkV rsT
      by_cases hl : k = M0 24 7 - 1
      · rw [if_pos hl, hl, bz_e]
      · rw [if_neg hl, bz_s (by omega)]
        exact m5_congr (fun g q1 q2 => by rw [haf (by omega) g q1 q2]; rfl)
    refine aM_leastRow [27] 30 (fun hM => ?_)
    refine ⟨by omega, ite_i (fun q => by omega) (fun q => ?_)⟩
    refine ⟨by omega, ite_i (fun q => ?_) (fun q => by omega)⟩
    refine CL.vo (z_back hA1 hL (by omega) (by omega) (fun q0 g q1 q2 => by
      have := rsT_rng hL.1 (k := k + 1) (by omega) q1 q2
      rw [haf q0 g q1 q2]; omega)) (Nat.le_of_ble_eq_true rfl) (fun hM => ?_)
    refine ih (k + -1) _ (by omega) (by omega) ?_
    rw [show k + -1 + 1 = k by omega]
    exact hB.st hk2 hV
theorem z_leastRow {M : Mm} (hA : Agr M0 M) (ht : M0 24 12 = 0 ∨ TOk M0) (hL : LOk M0) : Ret 8 0 0 mM_leastRow [.inr 24] (S0 N) M (fun r S' M' => r = some (.inl (lrV M0)) ∧ S' = S0 N ∧ Agr M0 M' ∧ (0 < M0 24 7 → RT M0 M')) := by
  have l3 := hL.2.2.1
  have l4 := hL.2.2.2.1
  have e7 := hA 24 7 (by omega)
  have e12 := hA 24 12 (by omega)
  have c49 : 0 < M0 24 7 → ∀ Mb, RT M0 Mb → AJ 8 0 0 mM_leastRow (fun r S' M' => r = some (.inl (lrV M0)) ∧ S' = S0 N ∧ Agr M0 M' ∧ (0 < M0 24 7 → RT M0 M')) 0 0 49 [some (.inr 24)] [] (S0 N) Mb := by
    intro hn Mb hR
    have tr := tot_rng ht hL hn
    refine aM_leastRow [] 30 (fun hM => ?_)
    refine CL.pu (z_leastStart hR ht hL hn) (Nat.le_of_ble_eq_true rfl) ?_
    refine ⟨by omega, ite_i (fun q => ?_) (fun q => ?_)⟩
    · refine ⟨?_, rfl, hR.1, fun _ => hR⟩
      unfold lrV; rw [if_neg (by omega), if_pos q]
    · refine ⟨?_, rfl, hR.1, fun _ => hR⟩
      unfold lrV; rw [if_neg (by omega), if_neg q]
  refine eM_leastRow [27] 30 (Nat.le_of_ble_eq_true rfl) (fun hM => ?_)
  refine ⟨by omega, ite_i (fun q => ?_) (fun q => ?_)⟩
  · refine ⟨?_, rfl, hA, fun h => by omega⟩
    unfold lrV; rw [if_pos (by omega)]
  · refine ⟨hM _ _, ite_i (fun q2 => ?_) (fun q2 => ?_)⟩
    · have hT : TOk M0 := by
        rcases ht with ht | ht
        · omega
        · exact ht
      refine ⟨7, _, (Nat.le_of_ble_eq_true rfl), z_findTie hA hT hL, ?_⟩
      rintro r S' M' ⟨rfl, rfl, hA', hF⟩ hM'
      have e7' := hA' 24 7 (by omega)
      have e12' := hA' 24 12 (by omega)
      conv => whnf
      rw [e7']
      have hg := c49 (by omega) M' ⟨hA', fun _ => hF, fun h => by omega⟩
      have l27 : AJ 8 0 0 mM_leastRow (fun r S' M' => r = some (.inl (lrV M0)) ∧ S' = S0 N ∧ Agr M0 M' ∧ (0 < M0 24 7 → RT M0 M')) 0 0 27 [some (.inr 24), some (.inl (M0 24 7 - 1))] [] (S0 N) M' := by
        refine aM_leastRow [49] 30 (fun hM => ?_)
        refine ⟨by omega, ite_i (fun q => by omega) (fun q => ?_)⟩
        refine ⟨hM _ _, ite_i (fun q => by omega) (fun q => ?_)⟩
        exact AJ.wk hg ⟨rfl, trivial⟩
      exact l27
    · have h0 : M0 24 12 = 0 := by
        rcases ht with ht | ht
        · exact ht
        · have := ht.1; omega
      conv => whnf
      rw [e7]
      exact z_row_loop hA h0 hL (fun Mb hB => c49 (by omega) Mb ⟨hB.agr hA, fun h => by omega, fun _ k f q1 q2 q3 q4 => hB.1 k f q1 q2 q3 q4⟩) (M0 24 7).toNat _ _ (by omega) (by omega) (BK.rf _ _ (by omega))
end Row
