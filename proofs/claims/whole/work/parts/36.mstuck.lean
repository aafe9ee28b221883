/-! ===== the reference: tied and stuck ===== -/
/-- what the notes up to k cost, the last with finger f -/
def nxV (M : Mm) (T : Int → Int) (k : Int) (g : Int) : Int := if okM M (k + 1) g then m5 (fun f => T f + stM M k f g) + ncM M (k + 1) g else 1000000
def up (M : Mm) : Nat → Int → Int
  | 0, f => if okM M 0 f then ncM M 0 f else 1000000
  | k + 1, g => clp (nxV M (up M k) (k : Int) g)
section Stuck
variable {N : Nat} {M0 M : Mm}
theorem nxV_rng (hI : RuI M0) {T : Int → Int} (hT : ∀ f, 1 ≤ f → f ≤ 5 → 0 ≤ T f ∧ T f ≤ 1000000) {k g : Int} (hg0 : 1 ≤ g) (hg1 : g ≤ 5) : 0 ≤ nxV M0 T k g ∧ nxV M0 T k g ≤ 1000020 := by
  have h2 := ncv_rng hI (M0 31 (k + 1)) g
  have h1 := m5_rng (φ := fun f => T f + stM M0 k f g) (fun f q1 q2 => by
    have := hT f q1 q2
    have := stv_rng hI (hand := M0 24 6) (a := M0 31 k) (b := M0 31 (k + 1)) q1 q2 hg0 hg1
    show 0 ≤ T f + stv _ _ _ _ _ _ _ _ _
    omega)
  unfold nxV
  split
  · unfold ncM; omega
  · omega
theorem up_rng (hI : RuI M0) : ∀ (k : Nat) (f : Int), 1 ≤ f → f ≤ 5 → 0 ≤ up M0 k f ∧ up M0 k f ≤ 1000000 := by
  intro k
  induction k with
  | zero =>
    intro f h1 h2
    have := ncv_rng hI (M0 31 0) f
    unfold up
    split
    · unfold ncM; omega
    · omega
  | succ k ih =>
    intro f h1 h2
    have := nxV_rng hI ih (k := k) h1 h2
    unfold up clp
    split <;> omega
theorem z_begin (hA : Agr M0 M) (hL : LOk M0) (hn : 0 < M0 24 7) : Ret 2 0 0 mM_begin [.inr 24] (S0 N) M (Vo (S0 N) (wr M 33 0 (up M0 0) 5)) := by
  have loop : ∀ (n i : Nat), i + n = 5 → AJ 2 0 0 mM_begin (Vo (S0 N) (wr M 33 0 (up M0 0) 5)) 0 0 2 [some (.inr 24), some (.inl (i + 1))] [] (S0 N) (wr M 33 0 (up M0 0) i) := by
    intro n
    induction n with
    | zero =>
      intro i hi
      have : i = 5 := by omega
      subst this
      refine aM_begin [2] 30 (fun hM => ?_)
      exact ⟨by decide, vo_eq rfl⟩
    | succ n ih =>
      intro i hi
      have hA1 : Agr M0 (wr M 33 0 (up M0 0) i) := hA.wr (by omega) _ _ _
      have e31 := hA1.c 31 (by omega)
      have e30 := hA1.c 30 (by omega)
      have a := hL.2.2.2.2 0 (by omega) hn
      have hr := up_rng hL.1 0 (i + 1) (by omega) (by omega)
      have h2 := ih (i + 1) (by omega)
      rw [show ((i + 1 : Nat) : Int) = (i : Int) + 1 by omega] at h2
      have e0 : up M0 0 (i + 1) = if okM M0 0 (i + 1) then ncM M0 0 (i + 1) else 1000000 := rfl
      refine aM_begin [2] 40 (fun hM => ?_)
      refine ⟨by omega, ite_i (fun q => by omega) (fun q => ?_)⟩
      refine CL.bl (z_isOf hA1 (by omega) (by omega)) (Nat.le_of_ble_eq_true rfl) (fun q2 => ?_) (fun q2 => ?_)
      · refine ⟨R32_1, by omega, ?_⟩
        refine CL.pu (z_noteCost (RuI.agr hA1 hL.1) (by rw [e31]; omega) (by rw [e31]; omega) (by omega)) (Nat.le_of_ble_eq_true rfl) ?_
        rw [if_pos q2] at e0
        have ev : ncv ((wr M 33 0 (up M0 0) i) 30) ((wr M 33 0 (up M0 0) i) 31 0) (i + 1) = up M0 0 (i + 1) := by rw [e31, e30, e0]
        refine ⟨⟨by decide, by omega, by omega, by omega, by omega⟩, ?_⟩
        rw [show (i : Int) + 1 = 0 + (i + 1) by omega, wr_step (by omega) (by rw [show (0 : Int) + (i + 1) = i + 1 by omega]; exact ev), show (0 : Int) + (i + 1) = i + 1 by omega]
        exact h2
      · rw [if_neg q2] at e0
        refine ⟨R32_0, ⟨by decide, by omega, by omega, by omega, by omega⟩, ?_⟩
        rw [show (i : Int) + 1 = 0 + (i + 1) by omega, wr_step (by omega) (by rw [e0]), show (0 : Int) + (i + 1) = i + 1 by omega]
        exact h2
  refine eM_begin [2] 30 (Nat.le_of_ble_eq_true rfl) (fun hM => ?_)
  have h2 := loop 5 0 (by omega)
  rw [show ((0 : Nat) : Int) = 0 from rfl, wr_0] at h2
  exact h2
theorem z_leastUp (hB : ∀ g, 1 ≤ g → g ≤ 5 → 0 ≤ M 33 g ∧ M 33 g ≤ 1000000) : Ret 0 0 0 mM_leastUp [.inr 24] (S0 N) M (Pu (S0 N) M (m5 (M 33))) := by
  have loop : ∀ (n : Nat) (g l : Int), g + n = 6 → 1 ≤ g → 0 ≤ l → l ≤ 1000000 → AJ 0 0 0 mM_leastUp (Pu (S0 N) M (mfr (M 33) n g l)) 0 0 5 [some (.inr 24), some (.inl l), some (.inl g)] [] (S0 N) M := by
    intro n
    induction n with
    | zero =>
      intro g l hg hg1 hl0 hl1
      have : g = 6 := by omega
      subst this
      refine aM_leastUp [] 30 (fun hM => ?_)
      exact ⟨by decide, pu_eq rfl⟩
    | succ n ih =>
      intro g l hg hg1 hl0 hl1
      have hr := hB g hg1 (by omega)
      refine aM_leastUp [5] 30 (fun hM => ?_)
      refine ⟨by omega, ite_i (fun q => by omega) (fun q => ?_)⟩
      refine ⟨by omega, by omega, ite_i (fun q => ?_) (fun q => ?_)⟩
      · refine ⟨by omega, ?_⟩
        have := ih (g + 1) (M 33 g) (by omega) (by omega) (by omega) (by omega)
        unfold mfr mn
        rw [if_pos q]; exact this
      · have := ih (g + 1) l (by omega) (by omega) (by omega) (by omega)
        unfold mfr mn
        rw [if_neg q]; exact this
  refine eM_leastUp [5] 30 (Nat.le_of_ble_eq_true rfl) (fun hM => ?_)
  exact loop 5 1 1000000 (by omega) (by omega) (by omega) (by omega)
theorem stM_rng (hI : RuI M0) {k f g : Int} (hf0 : 1 ≤ f) (hf1 : f ≤ 5) (hg0 : 1 ≤ g) (hg1 : g ≤ 5) : 0 ≤ stM M0 k f g ∧ stM M0 k f g ≤ 1000000 := by
  have := stv_rng hI (hand := M0 24 6) (a := M0 31 k) (b := M0 31 (k + 1)) hf0 hf1 hg0 hg1
  show 0 ≤ stv _ _ _ _ _ _ _ _ _ ∧ stv _ _ _ _ _ _ _ _ _ ≤ _
  omega
theorem z_goes_inner {k g : Int} {Φ : Option Vl → Ly → Mm → Prop} (hA : Agr M0 M) (hL : LOk M0) (h0 : 0 ≤ k) (h1 : k + 1 < M0 24 7) (hg0 : 1 ≤ g) (hg1 : g ≤ 5) (hB : ∀ f, 1 ≤ f → f ≤ 5 → 0 ≤ M 33 f ∧ M 33 f ≤ 1000000) {φ : Int → Int} (hφ : ∀ f, 1 ≤ f → f ≤ 5 → φ f = M 33 f + stM M0 k f g) :
    ∀ (n : Nat) (f l : Int) (L6 : Option Vl), f + n = 6 → 1 ≤ f → 0 ≤ l → l ≤ 1000000 → AJ 3 0 0 mM_goesOn Φ 0 0 60 [some (.inr 24), some (.inl k), some (.inl 1), some (.inl g), some (.inl (mfr φ n f l))] [] (S0 N) M → AJ 3 0 0 mM_goesOn Φ 0 0 14 [some (.inr 24), some (.inl k), some (.inl 1), some (.inl g), some (.inl l), some (.inl f), L6] [] (S0 N) M := by
  intro n
  induction n with
  | zero =>
    intro f l L6 hf hf1 hl0 hl1 kk
    have : f = 6 := by omega
    subst this
    refine aM_goesOn [60] 30 (fun hM => ?_)
    exact ⟨by decide, AJ.wk kk ⟨rfl, rfl, rfl, rfl, rfl, trivial⟩⟩
  | succ n ih =>
    intro f l L6 hf hf1 hl0 hl1 kk
    have hb := hB f hf1 (by omega)
    have hs := stM_rng hL.1 (k := k) hf1 (show f ≤ 5 by omega) hg0 hg1
    have hp := hφ f hf1 (by omega)
    refine aM_goesOn [60, 14] 40 (fun hM => ?_)
    refine ⟨by omega, ite_i (fun q => by omega) (fun q => ?_)⟩
    refine ⟨by omega, ?_⟩
    refine CL.pu (z_stepAt hA hL h0 h1 hf1 (by omega) hg0 hg1) (Nat.le_of_ble_eq_true rfl) ?_
    refine ⟨by omega, ite_i (fun q => ?_) (fun q => ?_)⟩
    · refine ih (f + 1) _ _ (by omega) (by omega) (by omega) (by omega) ?_
      unfold mfr mn at kk
      rw [hp, if_pos q] at kk
      exact kk
    · refine ih (f + 1) _ _ (by omega) (by omega) (by omega) (by omega) ?_
      unfold mfr mn at kk
      rw [hp, if_neg q] at kk
      exact kk
theorem z_goes_1 {k : Int} {Φ : Option Vl → Ly → Mm → Prop} (hA : Agr M0 M) (hL : LOk M0) (h0 : 0 ≤ k) (h1 : k + 1 < M0 24 7) (hB : ∀ f, 1 ≤ f → f ≤ 5 → 0 ≤ M 33 f ∧ M 33 f ≤ 1000000)
    (kk : AJ 3 0 0 mM_goesOn Φ 0 0 112 [some (.inr 24), some (.inl k), some (.inl 1)] [] (S0 N) (wr M 34 0 (nxV M0 (M 33) k) 5)) :
    ∀ (n i : Nat), i + n = 5 → AJ 3 0 0 mM_goesOn Φ 0 0 2 [some (.inr 24), some (.inl k), some (.inl 1), some (.inl (i + 1))] [] (S0 N) (wr M 34 0 (nxV M0 (M 33) k) i) := by
  intro n
  induction n with
  | zero =>
    intro i hi
    have : i = 5 := by omega
    subst this
    refine aM_goesOn [112] 30 (fun hM => ?_)
    exact ⟨by decide, AJ.wk kk ⟨rfl, rfl, rfl, trivial⟩⟩
  | succ n ih =>
    intro i hi
    have hA1 : Agr M0 (wr M 34 0 (nxV M0 (M 33) k) i) := hA.wr (by omega) _ _ _
    have e33 : (wr M 34 0 (nxV M0 (M 33) k) i) 33 = M 33 := by funext j; exact wr_ne (by omega)
    have e31 := hA1.c 31 (by omega)
    have e30 := hA1.c 30 (by omega)
    have a := hL.2.2.2.2 (k + 1) (by omega) h1
    have l7 := hL.2.2.2.1
    have hr := nxV_rng hL.1 hB (k := k) (g := i + 1) (by omega) (by omega)
    have hm := m5_rng (φ := fun f => M 33 f + stM M0 k f (i + 1)) (fun f q1 q2 => by
      have := hB f q1 q2
      have := stM_rng hL.1 (k := k) (f := f) (g := i + 1) q1 q2 (by omega) (by omega)
      show 0 ≤ M 33 f + stM M0 k f (i + 1)
      omega)
    have h2 := ih (i + 1) (by omega)
    rw [show ((i + 1 : Nat) : Int) = (i : Int) + 1 by omega] at h2
    have e0 : nxV M0 (M 33) k (i + 1) = if okM M0 (k + 1) (i + 1) then m5 (fun f => M 33 f + stM M0 k f (i + 1)) + ncM M0 (k + 1) (i + 1) else 1000000 := rfl
    have st : AJ 3 0 0 mM_goesOn Φ 0 0 60 [some (.inr 24), some (.inl k), some (.inl 1), some (.inl (i + 1)), some (.inl (m5 (fun f => M 33 f + stM M0 k f (i + 1))))] [] (S0 N) (wr M 34 0 (nxV M0 (M 33) k) i) := by
      generalize hv : m5 (fun f => M 33 f + stM M0 k f (i + 1)) = v at *
      refine aM_goesOn [2] 40 (fun hM => ?_)
      refine CL.bl (z_isOf hA1 (by omega) (by omega)) (Nat.le_of_ble_eq_true rfl) (fun q2 => ?_) (fun q2 => ?_)
      · refine ⟨R32_1, R32_1, by omega, ?_⟩
        refine CL.pu (z_noteCost (RuI.agr hA1 hL.1) (by rw [e31]; omega) (by rw [e31]; omega) (by omega)) (Nat.le_of_ble_eq_true rfl) ?_
        rw [if_pos q2] at e0
        have ev : v + ncv ((wr M 34 0 (nxV M0 (M 33) k) i) 30) ((wr M 34 0 (nxV M0 (M 33) k) i) 31 (k + 1)) (i + 1) = nxV M0 (M 33) k (i + 1) := by rw [e31, e30, e0]
        refine ⟨⟨by decide, by omega, by omega, by omega, by omega⟩, ?_⟩
        rw [show (i : Int) + 1 = 0 + (i + 1) by omega, wr_step (by omega) (by rw [show (0 : Int) + (i + 1) = i + 1 by omega]; exact ev), show (0 : Int) + (i + 1) = i + 1 by omega]
        exact AJ.wk h2 ⟨rfl, rfl, rfl, rfl, trivial⟩
      · rw [if_neg q2] at e0
        refine ⟨R32_0, ⟨by decide, by omega, by omega, by omega, by omega⟩, ?_⟩
        rw [show (i : Int) + 1 = 0 + (i + 1) by omega, wr_step (by omega) (by rw [e0]), show (0 : Int) + (i + 1) = i + 1 by omega]
        exact AJ.wk h2 ⟨rfl, rfl, rfl, rfl, trivial⟩
    refine aM_goesOn [60, 14] 40 (fun hM => ?_)
    refine ⟨by omega, ite_i (fun q => by omega) (fun q => ?_)⟩
    exact AJ.wk (z_goes_inner (φ := fun f => M 33 f + stM M0 k f (i + 1)) hA1 hL h0 h1 (by omega) (by omega) (fun f q1 q2 => by rw [e33]; exact hB f q1 q2) (fun f q1 q2 => by rw [e33]) 5 1 1000000 none (by omega) (by omega) (by omega) (by omega) st) ⟨rfl, rfl, rfl, rfl, rfl, rfl, trivial⟩
theorem z_goes_2 {k : Int} {V : Int → Int} (hV : ∀ f, 1 ≤ f → f ≤ 5 → M 34 f = V f ∧ 0 ≤ V f ∧ V f ≤ 1000020) : ∀ (n i : Nat), i + n = 5 → AJ 3 0 0 mM_goesOn (Vo (S0 N) (wr M 33 0 (fun g => clp (V g)) 5)) 0 0 114 [some (.inr 24), some (.inl k), some (.inl 1), some (.inl (i + 1))] [] (S0 N) (wr M 33 0 (fun g => clp (V g)) i) := by
  intro n
  induction n with
  | zero =>
    intro i hi
    have : i = 5 := by omega
    subst this
    refine aM_goesOn [114] 30 (fun hM => ?_)
    exact ⟨by decide, vo_eq rfl⟩
  | succ n ih =>
    intro i hi
    have hv := hV (i + 1) (by omega) (by omega)
    have e34 : (wr M 33 0 (fun g => clp (V g)) i) 34 (i + 1) = V (i + 1) := by rw [wr_ne (by omega)]; exact hv.1
    have h2 := ih (i + 1) (by omega)
    rw [show ((i + 1 : Nat) : Int) = (i : Int) + 1 by omega] at h2
    refine aM_goesOn [114] 30 (fun hM => ?_)
    refine ⟨by omega, ite_i (fun q => by omega) (fun q => ?_)⟩
    refine ⟨by omega, by omega, ite_i (fun q => ?_) (fun q => ?_)⟩
    · refine ⟨⟨by decide, by omega, by omega, by omega, by omega⟩, ?_⟩
      rw [show (i : Int) + 1 = 0 + (i + 1) by omega, wr_step (by omega) (by unfold clp; split <;> omega), show (0 : Int) + (i + 1) = i + 1 by omega]
      exact h2
    · have ec : V (i + 1) = clp (V (i + 1)) := by unfold clp; split <;> omega
      refine ⟨by omega, ⟨by decide, by omega, by omega, by omega, by omega⟩, ?_⟩
      rw [e34, show (i : Int) + 1 = 0 + (i + 1) by omega, wr_step (by omega) (by rw [show (0 : Int) + (i + 1) = i + 1 by omega]; exact ec), show (0 : Int) + (i + 1) = i + 1 by omega]
      exact h2
theorem z_goesOn {k : Int} (hA : Agr M0 M) (hL : LOk M0) (h0 : 0 ≤ k) (h1 : k + 1 < M0 24 7) (hB : ∀ f, 1 ≤ f → f ≤ 5 → 0 ≤ M 33 f ∧ M 33 f ≤ 1000000) :
    Ret 3 0 0 mM_goesOn [.inr 24, .inl k, .inl 1] (S0 N) M (Vo (S0 N) (wr (wr M 34 0 (nxV M0 (M 33) k) 5) 33 0 (fun g => clp (nxV M0 (M 33) k g)) 5)) := by
  refine eM_goesOn [2] 30 (Nat.le_of_ble_eq_true rfl) (fun hM => ?_)
  have h2 := z_goes_1 (N := N) (Φ := Vo (S0 N) (wr (wr M 34 0 (nxV M0 (M 33) k) 5) 33 0 (fun g => clp (nxV M0 (M 33) k g)) 5)) hA hL h0 h1 hB ?_ 5 0 (by omega)
  · rw [show ((0 : Nat) : Int) = 0 from rfl, wr_0] at h2
    exact h2
  · refine aM_goesOn [114] 30 (fun hM => ?_)
    have h3 := z_goes_2 (N := N) (k := k) (M := wr M 34 0 (nxV M0 (M 33) k) 5) (V := nxV M0 (M 33) k) (fun f q1 q2 => ⟨by rw [show f = 0 + f by omega, wr_eq (by omega) (by omega), show 0 + f = f by omega], nxV_rng hL.1 hB q1 q2⟩) 5 0 (by omega)
    rw [show ((0 : Nat) : Int) = 0 from rfl, wr_0] at h3
    exact h3
theorem nxV_congr {T T' : Int → Int} (h : ∀ f, 1 ≤ f → f ≤ 5 → T f = T' f) (k g : Int) : nxV M0 T k g = nxV M0 T' k g := by
  unfold nxV
  rw [m5_congr (φ := fun f => T f + stM M0 k f g) (ψ := fun f => T' f + stM M0 k f g) (fun f q1 q2 => by show T f + _ = T' f + _; rw [h f q1 q2])]
theorem z_plainTo {k : Nat} (hA : Agr M0 M) (hL : LOk M0) (h1 : (k : Int) < M0 24 7) : Ret 4 0 0 mM_plainTo [.inr 24, .inl k] (S0 N) M (fun r S' M' => r = some (.inl (m5 (up M0 k))) ∧ S' = S0 N ∧ Agr M0 M') := by
  have l7 := hL.2.2.2.1
  have loop : ∀ (n i : Nat), i + n = k → ∀ M1 : Mm, Agr M0 M1 → (∀ f, 1 ≤ f → f ≤ 5 → M1 33 f = up M0 i f) → AJ 4 0 0 mM_plainTo (fun r S' M' => r = some (.inl (m5 (up M0 k))) ∧ S' = S0 N ∧ Agr M0 M') 0 0 6 [some (.inr 24), some (.inl k), some (.inl i)] [] (S0 N) M1 := by
    intro n
    induction n with
    | zero =>
      intro i hi M1 hA1 hu
      have : i = k := by omega
      subst this
      refine aM_plainTo [] 30 (fun hM => ?_)
      refine ⟨by omega, ite_i (fun q => by omega) (fun q => ?_)⟩
      refine CL.pu (z_leastUp (fun g q1 q2 => by rw [hu g q1 q2]; exact up_rng hL.1 _ g q1 q2)) (Nat.le_of_ble_eq_true rfl) ?_
      refine ⟨?_, rfl, hA1⟩
      rw [m5_congr hu]
    | succ n ih =>
      intro i hi M1 hA1 hu
      have hB : ∀ f, 1 ≤ f → f ≤ 5 → 0 ≤ M1 33 f ∧ M1 33 f ≤ 1000000 := fun g q1 q2 => by rw [hu g q1 q2]; exact up_rng hL.1 _ g q1 q2
      refine aM_plainTo [6] 30 (fun hM => ?_)
      refine ⟨by omega, ite_i (fun q => ?_) (fun q => by omega)⟩
      refine CL.vo (z_goesOn hA1 hL (by omega) (by omega) hB) (Nat.le_of_ble_eq_true rfl) (fun hM2 => ?_)
      have h2 := ih (i + 1) (by omega) (wr (wr M1 34 0 (nxV M0 (M1 33) i) 5) 33 0 (fun g => clp (nxV M0 (M1 33) i g)) 5) ((hA1.wr (by omega) _ _ _).wr (by omega) _ _ _) (fun f q1 q2 => by
        rw [show f = 0 + f by omega, wr_eq (by omega) (by omega), show 0 + f = f by omega]
        show clp _ = clp _
        rw [nxV_congr hu])
      rw [show ((i + 1 : Nat) : Int) = (i : Int) + 1 by omega] at h2
      exact h2
  refine eM_plainTo [6] 30 (Nat.le_of_ble_eq_true rfl) (fun hM => ?_)
  refine CL.vo (z_begin hA hL (by omega)) (Nat.le_of_ble_eq_true rfl) (fun hM2 => ?_)
  exact loop k 0 (by omega) _ (hA.wr (by omega) _ _ _) (fun f q1 q2 => by rw [show f = 0 + f by omega, wr_eq (by omega) (by omega), show 0 + f = f by omega])
theorem de_up {M M' : Mm} (d : DEq M M') : ∀ (k : Nat), (k : Int) < M 24 7 → ∀ f, 1 ≤ f → f ≤ 5 → up M' k f = up M k f := by
  intro k
  induction k with
  | zero =>
    intro hk f q1 q2
    have e := de_ok d (k := 0) (f := f) (by omega) (by omega)
    unfold up okM
    rw [e.1, e.2]
  | succ k ih =>
    intro hk f q1 q2
    have e := de_ok d (k := (k : Int) + 1) (f := f) (by omega) (by omega)
    unfold up nxV okM
    rw [e.1, e.2, m5_congr (φ := fun g => up M' k g + stM M' k g f) (ψ := fun g => up M k g + stM M k g f) (fun g z1 z2 => by
      show up M' k g + stM M' k g f = _
      rw [ih (by omega) g z1 z2, (de_go (f := g) (g := f) d (k := (k : Int)) (by omega) (by omega)).2])]
/-- the first note at which the plain row stands still, or 99 -/
def StP (F : Int → Prop) (n v : Int) : Prop := (0 ≤ v ∧ v < n ∧ ¬ F v ∧ ∀ i, 0 ≤ i → i < v → F i) ∨ (v = 99 ∧ ∀ i, 0 ≤ i → i < n → F i)
theorem StP.uniq {F G : Int → Prop} {n v w : Int} (hn : n ≤ 30) (h : ∀ i, 0 ≤ i → i < n → (F i ↔ G i)) (h1 : StP F n v) (h2 : StP G n w) : v = w := by
  rcases h1 with ⟨a, b, c, d⟩ | ⟨a, d⟩ <;> rcases h2 with ⟨a', b', c', d'⟩ | ⟨a', d'⟩
  · rcases Int.lt_trichotomy v w with q | q | q
    · exact absurd ((h v a b).mpr (d' v a q)) c
    · exact q
    · exact absurd ((h w a' b').mp (d w a' q)) c'
  · exact absurd ((h v a b).mpr (d' v a b)) c
  · exact absurd ((h w a' b').mp (d w a' b')) c'
  · omega
def upF (M : Mm) (i : Int) : Prop := m5 (up M i.toNat) < 1000000
def StkV (M : Mm) (h v : Int) : Prop := if h = 0 ∨ h = 1 then (if bst M h = -9 then StP (upF (LM M h)) (cnt (fK M h) 30) v else v = -9) else v = -1
theorem z_stuck {h : Int} (hr : R32 h) (hI : MI M) (hC : ChI M) : Ret 10 0 0 mM_stuck [.inr 24, .inl h] (S0 N) M (fun r S' M' => (∃ v, r = some (.inl v) ∧ StkV M h v) ∧ S' = S0 N ∧ Ak M M') := by
  have cr := cnt_rng (fK M h) 30
  refine eM_stuck [24] 30 (Nat.le_of_ble_eq_true rfl) (fun hM => ?_)
  refine CL.bl (z_isHand hr) (Nat.le_of_ble_eq_true rfl) (fun q => ?_) (fun q => ?_)
  · refine ⟨R32_1, ?_⟩
    refine ⟨9, _, (Nat.le_of_ble_eq_true rfl), z_leastOfHand q hI, ?_⟩
    rintro r S' M3 ⟨rfl, rfl, hF, M2, d1, d2, hA, hR⟩ hM3
    have br := bst_rng q hI
    have hL0 := LM_ok q hI.1 hI.2.1
    have hL2 := hL0.de d1 (hI.fr d2).1
    have e7 : M2 24 7 = cnt (fK M h) 30 := by rw [d1.2.1, LM_7]
    refine ⟨by omega, ite_i (fun q2 => ?_) (fun q2 => ?_)⟩
    · have loop : ∀ (n i : Nat), (i : Int) + n = cnt (fK M h) 30 → (∀ j : Int, 0 ≤ j → j < i → upF (LM M h) j) → ∀ M4 : Mm, Agr M2 M4 → AJ 10 0 0 mM_stuck (fun r S' M' => (∃ v, r = some (.inl v) ∧ StkV M h v) ∧ S' = S0 N ∧ Ak M M') 0 0 24 [some (.inr 24), some (.inl h), some (.inl i)] [] (S0 N) M4 := by
        intro n
        induction n with
        | zero =>
          intro i hi hu M4 hA4
          have e74 : M4 24 7 = M2 24 7 := hA4 24 7 (by omega)
          have hF4 : FrM M M4 := fun c j z => by rw [hA4 c j (by omega)]; exact d2 c j z
          refine aM_stuck [] 30 (fun hM => ?_)
          refine ⟨by omega, ite_i (fun q => by omega) (fun q3 => ?_)⟩
          refine ⟨⟨_, rfl, ?_⟩, rfl, hF4.a, hC.fr hI hF4⟩
          unfold StkV
          rw [if_pos q, if_pos q2]
          exact Or.inr ⟨rfl, fun j z1 z2 => hu j z1 (by omega)⟩
        | succ n ih =>
          intro i hi hu M4 hA4
          have e74 : M4 24 7 = M2 24 7 := hA4 24 7 (by omega)
          refine aM_stuck [24] 30 (fun hM => ?_)
          refine ⟨by omega, ite_i (fun q3 => ?_) (fun q => by omega)⟩
          refine ⟨4, _, (Nat.le_of_ble_eq_true rfl), z_plainTo hA4 hL2 (by omega), ?_⟩
          rintro r S' M5 ⟨rfl, rfl, hA5⟩ hM5
          have hF5 : FrM M M5 := fun c j z => by rw [hA5 c j (by omega)]; exact d2 c j z
          have eu : m5 (up M2 i) = m5 (up (LM M h) i) := m5_congr (de_up d1 i (by rw [LM_7]; omega))
          have ur := m5_rng (fun g z1 z2 => (up_rng hL2.1 i g z1 z2).1)
          refine ⟨by omega, ite_i (fun q4 => ?_) (fun q4 => ?_)⟩
          · have h2 := ih (i + 1) (by omega) (fun j z1 z2 => by
              by_cases hj : j < i
              · exact hu j z1 hj
              · have : j = (i : Int) := by omega
                subst this
                show m5 (up (LM M h) ((i : Int).toNat)) < 1000000
                rw [Int.toNat_natCast, ← eu]; exact q4) M5 hA5
            rw [show ((i + 1 : Nat) : Int) = (i : Int) + 1 by omega] at h2
            exact h2
          · refine ⟨⟨_, rfl, ?_⟩, rfl, hF5.a, hC.fr hI hF5⟩
            unfold StkV
            rw [if_pos q, if_pos q2]
            refine Or.inl ⟨by omega, by omega, fun z => q4 ?_, hu⟩
            have z' : m5 (up (LM M h) ((i : Int).toNat)) < 1000000 := z
            rw [Int.toNat_natCast, ← eu] at z'; exact z'
      have hc : (cnt (fK M h) 30).toNat = cnt (fK M h) 30 := by omega
      exact loop (cnt (fK M h) 30).toNat 0 (by omega) (fun j z1 z2 => by omega) M3 hA
    · refine ⟨⟨_, rfl, ?_⟩, rfl, hF.a, hC.fr hI hF⟩
      unfold StkV
      rw [if_pos q, if_neg q2]
  · refine ⟨R32_0, ⟨_, rfl, ?_⟩, rfl, fun _ _ _ => rfl, hC⟩
    unfold StkV
    rw [if_neg q]
theorem de_t0 {A B : Mm} (d : DEq A B) : DEq (mset A 24 12 0) (mset B 24 12 0) := by
  obtain ⟨e6, e7, e12, e10, ek, r7, r8, r9, r0⟩ := d
  have f : ∀ (X : Mm) (c : Nat), c ≠ 24 → (mset X 24 12 0) c = X c := fun X c hc => by funext j; exact mset_ne (by omega)
  have g : ∀ (X : Mm) (j : Int), j ≠ 12 → (mset X 24 12 0) 24 j = X 24 j := fun X j hc => mset_ne (by omega)
  unfold DEq
  rw [g A 6 (by omega), g B 6 (by omega), g A 7 (by omega), g B 7 (by omega), f A 31 (by omega), f B 31 (by omega), f A 32 (by omega), f B 32 (by omega), f A 27 (by omega), f B 27 (by omega), f A 28 (by omega), f B 28 (by omega), f A 29 (by omega), f B 29 (by omega), f A 30 (by omega), f B 30 (by omega), mset_eq, mset_eq]
  exact ⟨e6, e7, rfl, fun z => absurd z (by omega), ek, r7, r8, r9, r0⟩
theorem LOk.t0 {A : Mm} (h : LOk A) : LOk (mset A 24 12 0) := by
  have f : ∀ (c : Nat), c ≠ 24 → (mset A 24 12 0) c = A c := fun c hc => by funext j; exact mset_ne (by omega)
  have g : ∀ (j : Int), j ≠ 12 → (mset A 24 12 0) 24 j = A 24 j := fun j hc => mset_ne (by omega)
  unfold LOk RuI at *
  rw [g 6 (by omega), g 7 (by omega), f 31 (by omega), f 3 (by omega), f 4 (by omega), f 27 (by omega), f 28 (by omega), f 29 (by omega), f 30 (by omega)]
  exact h
theorem de_agr {A B : Mm} (h : Agr A B) : DEq A B := ⟨h _ _ (by omega), h _ _ (by omega), h _ _ (by omega), fun _ => ⟨h _ _ (by omega), h _ _ (by omega)⟩, fun k _ _ => ⟨h _ _ (by omega), h _ _ (by omega)⟩, h.c _ (by omega), h.c _ (by omega), h.c _ (by omega), h.c _ (by omega)⟩
/-- what the least row without the tie costs -/
def plain (M : Mm) (h : Int) : Int := lrV (mset (LM M h) 24 12 0)
def tiedV (M : Mm) (h : Int) : Int := if h = 0 ∨ h = 1 then (if bst M h = -9 ∨ plain M h = -9 then -9 else bst M h - plain M h) else -1
theorem lrV_rng {A : Mm} (ht : A 24 12 = 0 ∨ TOk A) (hL : LOk A) : lrV A = -9 ∨ (0 ≤ lrV A ∧ lrV A < 1000000) := by
  unfold lrV
  split
  · right; omega
  · rename_i hn0
    have l3 := hL.2.2.1
    have := tot_rng ht hL (by omega)
    split <;> omega
theorem z_tied {h : Int} (hr : R32 h) (hI : MI M) (hC : ChI M) : Ret 10 0 0 mM_tied [.inr 24, .inl h] (S0 N) M (fun r S' M' => r = some (.inl (tiedV M h)) ∧ S' = S0 N ∧ Ak M M') := by
  refine eM_tied [] 30 (Nat.le_of_ble_eq_true rfl) (fun hM => ?_)
  refine CL.bl (z_isHand hr) (Nat.le_of_ble_eq_true rfl) (fun q => ?_) (fun q => ?_)
  · refine ⟨R32_1, ?_⟩
    refine ⟨9, _, (Nat.le_of_ble_eq_true rfl), z_leastOfHand q hI, ?_⟩
    rintro r S' M3 ⟨rfl, rfl, hF, M2, d1, d2, hA, hR⟩ hM3
    have br := bst_rng q hI
    have hL0 := LM_ok q hI.1 hI.2.1
    have d3 : DEq (LM M h) M3 := d1.trans (de_agr hA)
    have hL3 := hL0.de d3 (hI.fr hF).1
    refine ⟨⟨by decide, trivial⟩, ?_⟩
    refine ⟨8, _, (Nat.le_of_ble_eq_true rfl), z_leastRow (M0 := mset M3 24 12 0) (fun c j _ => rfl) (Or.inl (mset_eq ..)) hL3.t0, ?_⟩
    rintro r S' M4 ⟨rfl, rfl, hA4, hR4⟩ hM4
    have hF4 : FrM M M4 := fun c j z => by rw [hA4 c j (by omega), mset_ne (by omega)]; exact hF c j z
    have ep : lrV (mset M3 24 12 0) = plain M h := de_lrV (de_t0 d3) (Or.inl (mset_eq ..)) hL0.t0.2.2.1
    have pr := lrV_rng (A := mset M3 24 12 0) (Or.inl (mset_eq ..)) hL3.t0
    rw [ep] at pr ⊢
    have fin : ∀ v, v = tiedV M h → ((some (Sum.inl v) : Option Vl) = some (.inl (tiedV M h)) ∧ S0 N = S0 N ∧ Ak M M4) := fun v hv => ⟨by rw [hv], rfl, hF4.a, hC.fr hI hF4⟩
    refine ⟨by omega, ite_i (fun q2 => ?_) (fun q2 => ?_)⟩
    · exact fin _ (by unfold tiedV; rw [if_pos q, if_pos (Or.inl q2)])
    · refine ⟨by omega, ite_i (fun q3 => ?_) (fun q3 => ?_)⟩
      · exact fin _ (by unfold tiedV; rw [if_pos q, if_pos (Or.inr q3)])
      · exact fin _ (by unfold tiedV; rw [if_pos q, if_neg (by omega)])
  · refine ⟨R32_0, ?_, rfl, fun _ _ _ => rfl, hC⟩
    unfold tiedV
    rw [if_neg q]
end Stuck
