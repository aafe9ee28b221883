/-! ===== pure: tables from one place back ===== -/
def bv (w : Int → Int → Int → Int) (e : Int) (T : Int → Int) : Nat → Int → Int
  | 0, f => T f
  | d + 1, f => m5 (fun g => w (e - (d + 1)) f g + bv w e T d g)
def bz (w : Int → Int → Int → Int) (e : Int) (T : Int → Int) (k f : Int) : Int := bv w e T (e - k).toNat f
theorem bz_e (w : Int → Int → Int → Int) (e : Int) (T : Int → Int) (f : Int) : bz w e T e f = T f := by
  unfold bz; rw [show (e - e).toNat = 0 by omega]; rfl
theorem bz_s {w : Int → Int → Int → Int} {e : Int} {T : Int → Int} {k f : Int} (h : k < e) : bz w e T k f = m5 (fun g => w k f g + bz w e T (k + 1) g) := by
  unfold bz
  have h1 : (e - k).toNat = (e - (k + 1)).toNat + 1 := by omega
  rw [h1]
  show m5 (fun g => w (e - (((e - (k + 1)).toNat : Int) + 1)) f g + _) = _
  rw [show e - (((e - (k + 1)).toNat : Int) + 1) = k by omega]
theorem bz_rng {w : Int → Int → Int → Int} {e : Int} {T : Int → Int} (hw : ∀ k f g, 1 ≤ f → f ≤ 5 → 1 ≤ g → g ≤ 5 → 0 ≤ w k f g) (hT : ∀ f, 1 ≤ f → f ≤ 5 → 0 ≤ T f ∧ T f ≤ 1000000) {k f : Int} (hk : k ≤ e) (hf0 : 1 ≤ f) (hf1 : f ≤ 5) : 0 ≤ bz w e T k f ∧ bz w e T k f ≤ 1000000 := by
  unfold bz
  generalize hd : (e - k).toNat = d
  clear hd hk
  induction d generalizing f with
  | zero => exact hT f hf0 hf1
  | succ d ih =>
    refine m5_rng (fun g h1 h2 => ?_)
    have q1 := ih h1 h2
    have q2 := hw (e - (d + 1)) f g hf0 hf1 h1 h2
    omega
/-- rows lo to hi of rest hold V; all else is as it was -/
def BK (Ma Mb : Mm) (lo hi : Int) (V : Int → Int → Int) : Prop := (∀ k f, lo ≤ k → k ≤ hi → 1 ≤ f → f ≤ 5 → Mb 35 (6 * k + f) = V k f) ∧ ∀ c j, ¬ (c = 35 ∧ 6 * lo + 1 ≤ j ∧ j ≤ 6 * hi + 5) → Mb c j = Ma c j
theorem BK.rf (M : Mm) {lo hi : Int} (V : Int → Int → Int) (h : hi < lo) : BK M M lo hi V := ⟨fun k f h1 h2 => by omega, fun _ _ _ => rfl⟩
theorem BK.st {Ma Mb : Mm} {k hi : Int} {V : Int → Int → Int} {U : Int → Int} (h : BK Ma Mb (k + 1) hi V) (hk : k ≤ hi) (hU : ∀ f, 1 ≤ f → f ≤ 5 → U f = V k f) : BK Ma (wr Mb 35 (6 * k) U 5) k hi V := by
  refine ⟨fun k' f h1 h2 h3 h4 => ?_, fun c j hc => ?_⟩
  · by_cases hkk : k' = k
    · subst hkk
      rw [wr_eq h3 h4]; exact hU f h3 h4
    · rw [wr_ne (by omega)]; exact h.1 k' f (by omega) h2 h3 h4
  · rw [wr_ne (by omega)]; exact h.2 c j (by omega)
theorem BK.agr {M0 Ma Mb : Mm} {lo hi : Int} {V : Int → Int → Int} (h : BK Ma Mb lo hi V) (hA : Agr M0 Ma) : Agr M0 Mb := fun c j hc => by rw [h.2 c j (by omega)]; exact hA c j hc
/-! ties: both parts -/
def TOk (M : Mm) : Prop := 0 < M 24 12 ∧ 0 ≤ M 24 10 ∧ M 24 10 + M 24 12 ≤ M 24 11 ∧ M 24 11 + M 24 12 ≤ M 24 7
def jsM (M : Mm) (k f g : Int) : Int := if okM M (M 24 10 + (k + 1)) g ∧ okM M (M 24 11 + (k + 1)) g then goM M (M 24 10 + k) f g + goM M (M 24 11 + k) f g else 1000000
theorem jsM_rng {M : Mm} (hI : RuI M) {k f g : Int} (hf0 : 1 ≤ f) (hf1 : f ≤ 5) (hg0 : 1 ≤ g) (hg1 : g ≤ 5) : 0 ≤ jsM M k f g ∧ jsM M k f g ≤ 2000040 := by
  have h1 := goM_rng hI (k := M 24 10 + k) hf0 hf1 hg0 hg1
  have h2 := goM_rng hI (k := M 24 11 + k) hf0 hf1 hg0 hg1
  unfold jsM
  split <;> omega
section Tie
variable {N : Nat} {M0 M : Mm}
theorem z_isOfBoth {k f : Int} (hA : Agr M0 M) (hT : TOk M0) (hL : LOk M0) (h0 : 0 ≤ k) (h1 : k < M0 24 12) : Ret 1 0 0 mM_isOfBoth [.inr 24, .inl k, .inl f] (S0 N) M (Pu (S0 N) M (bi (okM M0 (M0 24 10 + k) f ∧ okM M0 (M0 24 11 + k) f))) := by
  obtain ⟨t1, t2, t3, t4⟩ := hT
  have l4 := hL.2.2.2.1
  have e10 : M 24 10 = M0 24 10 := hA 24 10 (by omega)
  have e11 : M 24 11 = M0 24 11 := hA 24 11 (by omega)
  refine eM_isOfBoth [] 30 (Nat.le_of_ble_eq_true rfl) (fun hM => ?_)
  conv => whnf
  rw [e10]
  refine CL.bl (z_isOf hA (by omega) (by omega)) (Nat.le_of_ble_eq_true rfl) (fun q => ?_) (fun q => ?_)
  · refine ⟨R32_1, ?_⟩
    conv => whnf
    rw [e11]
    refine CL.bl (z_isOf hA (by omega) (by omega)) (Nat.le_of_ble_eq_true rfl) (fun q2 => ?_) (fun q2 => ?_)
    · exact ⟨R32_1, Or.inr rfl, pu_eq (bi_t ⟨q, q2⟩).symm⟩
    · exact ⟨R32_0, Or.inl rfl, pu_eq (bi_f (fun h => q2 h.2)).symm⟩
  · exact ⟨R32_0, Or.inl rfl, pu_eq (bi_f (fun h => q h.1)).symm⟩
theorem z_jointStep {k f g : Int} (hA : Agr M0 M) (hT : TOk M0) (hL : LOk M0) (h0 : 0 ≤ k) (h1 : k + 1 < M0 24 12) (hf0 : 1 ≤ f) (hf1 : f ≤ 5) (hg0 : 1 ≤ g) (hg1 : g ≤ 5) : Ret 4 0 0 mM_jointStep [.inr 24, .inl k, .inl f, .inl g] (S0 N) M (Pu (S0 N) M (jsM M0 k f g)) := by
  obtain ⟨t1, t2, t3, t4⟩ := id hT
  have l4 := hL.2.2.2.1
  have e10 : M 24 10 = M0 24 10 := hA 24 10 (by omega)
  have e11 : M 24 11 = M0 24 11 := hA 24 11 (by omega)
  refine eM_jointStep [] 30 (Nat.le_of_ble_eq_true rfl) (fun hM => ?_)
  refine CL.bl (z_isOfBoth hA hT hL (by omega) h1) (Nat.le_of_ble_eq_true rfl) (fun q => ?_) (fun q => ?_)
  · refine ⟨R32_1, ?_⟩
    conv => whnf
    rw [e10]
    refine CL.pu (z_goingOn hA hL (by omega) (by omega) hf0 hf1 hg0 hg1) (Nat.le_of_ble_eq_true rfl) ?_
    conv => whnf
    rw [e11]
    refine CL.pu (z_goingOn hA hL (by omega) (by omega) hf0 hf1 hg0 hg1) (Nat.le_of_ble_eq_true rfl) (pu_eq ?_)
    unfold jsM; rw [if_pos q]
  · refine ⟨R32_0, pu_eq ?_⟩
    unfold jsM; rw [if_neg q]
theorem z_joint_inner {k f : Int} {Φ : Option Vl → Ly → Mm → Prop} {φ : Int → Int} (hA : Agr M0 M) (hT : TOk M0) (hL : LOk M0) (h0 : 0 ≤ k) (h1 : k + 1 < M0 24 12) (hf0 : 1 ≤ f) (hf1 : f ≤ 5) (hB : ∀ g, 1 ≤ g → g ≤ 5 → 0 ≤ M 36 (6 * (k + 1) + g) ∧ M 36 (6 * (k + 1) + g) ≤ 1000000) (hφ : ∀ g, 1 ≤ g → g ≤ 5 → φ g = jsM M0 k f g + M 36 (6 * (k + 1) + g)) :
    ∀ (n : Nat) (g l : Int) (L6 : Option Vl), g + n = 6 → 1 ≤ g → 0 ≤ l → l ≤ 1000000 → AJ 5 0 0 mM_findJoint Φ 0 0 127 [some (.inr 24), some (.inl k), some (.inl f), some (.inl 0), some (.inl (mfr φ n g l))] [] (S0 N) M → AJ 5 0 0 mM_findJoint Φ 0 0 70 [some (.inr 24), some (.inl k), some (.inl f), some (.inl 0), some (.inl l), some (.inl g), L6] [] (S0 N) M := by
  intro n
  induction n with
  | zero =>
    intro g l L6 hg hg1 hl0 hl1 kk
    have : g = 6 := by omega
    subst this
    refine aM_findJoint [127] 30 (fun hM => ?_)
    exact ⟨by decide, AJ.wk kk ⟨rfl, rfl, rfl, rfl, rfl, trivial⟩⟩
  | succ n ih =>
    intro g l L6 hg hg1 hl0 hl1 kk
    have hb := hB g hg1 (by omega)
    have hgo := jsM_rng hL.1 (k := k) hf0 hf1 hg1 (show g ≤ 5 by omega)
    have hp := hφ g hg1 (by omega)
    obtain ⟨t1, t2, t3, t4⟩ := id hT
    have l4 := hL.2.2.2.1
    refine aM_findJoint [127, 70] 40 (fun hM => ?_)
    refine ⟨by omega, ite_i (fun q => by omega) (fun q => ?_)⟩
    refine ⟨R32_0, CL.pu (z_jointStep hA hT hL h0 h1 hf0 hf1 hg1 (by omega)) (Nat.le_of_ble_eq_true rfl) ?_⟩
    refine ⟨by omega, by omega, ite_i (fun q => ?_) (fun q => ?_)⟩
    · refine ih (g + 1) _ _ (by omega) (by omega) (by omega) (by omega) ?_
      unfold mfr mn at kk
      rw [hp, if_pos q] at kk
      exact kk
    · refine ih (g + 1) _ _ (by omega) (by omega) (by omega) (by omega) ?_
      unfold mfr mn at kk
      rw [hp, if_neg q] at kk
      exact kk
def clp (x : Int) : Int := if x < 1000000 then x else 1000000
def jtV (M0 M : Mm) (k f : Int) : Int := if k = M0 24 12 - 1 then clp (M 35 (6 * (M0 24 10 + k) + f) + M 35 (6 * (M0 24 11 + k) + f)) else m5 (fun g => jsM M0 k f g + M 36 (6 * (k + 1) + g))
theorem z_joint_outer {k : Int} (hA : Agr M0 M) (hT : TOk M0) (hL : LOk M0) (h0 : 0 ≤ k) (h1 : k < M0 24 12) (hB : k + 1 < M0 24 12 → ∀ g, 1 ≤ g → g ≤ 5 → 0 ≤ M 36 (6 * (k + 1) + g) ∧ M 36 (6 * (k + 1) + g) ≤ 1000000)
    (hC : k + 1 = M0 24 12 → ∀ g, 1 ≤ g → g ≤ 5 → 0 ≤ M 35 (6 * (M0 24 10 + k) + g) ∧ M 35 (6 * (M0 24 10 + k) + g) ≤ 1000000 ∧ 0 ≤ M 35 (6 * (M0 24 11 + k) + g) ∧ M 35 (6 * (M0 24 11 + k) + g) ≤ 1000000) :
    ∀ (n i : Nat), i + n = 5 → AJ 5 0 0 mM_findJoint (Vo (S0 N) (wr M 36 (6 * k) (jtV M0 M k) 5)) 0 0 2 [some (.inr 24), some (.inl k), some (.inl (i + 1))] [] (S0 N) (wr M 36 (6 * k) (jtV M0 M k) i) := by
  intro n
  induction n with
  | zero =>
    intro i hi
    have : i = 5 := by omega
    subst this
    refine aM_findJoint [2] 30 (fun hM => ?_)
    exact ⟨by decide, vo_eq rfl⟩
  | succ n ih =>
    intro i hi
    obtain ⟨t1, t2, t3, t4⟩ := id hT
    have l4 := hL.2.2.2.1
    have hA1 : Agr M0 (wr M 36 (6 * k) (jtV M0 M k) i) := hA.wr (by omega) _ _ _
    have e10 : (wr M 36 (6 * k) (jtV M0 M k) i) 24 10 = M0 24 10 := hA1 24 10 (by omega)
    have e11 : (wr M 36 (6 * k) (jtV M0 M k) i) 24 11 = M0 24 11 := hA1 24 11 (by omega)
    have e12 : (wr M 36 (6 * k) (jtV M0 M k) i) 24 12 = M0 24 12 := hA1 24 12 (by omega)
    have fin : ∀ (v b : Int), 0 ≤ v → v ≤ 2000000 → clp v = jtV M0 M k (i + 1) → AJ 5 0 0 mM_findJoint (Vo (S0 N) (wr M 36 (6 * k) (jtV M0 M k) 5)) 0 0 127 [some (.inr 24), some (.inl k), some (.inl (i + 1)), some (.inl b), some (.inl v)] [] (S0 N) (wr M 36 (6 * k) (jtV M0 M k) i) := by
      intro v b hv0 hv1 hv
      have h2 := ih (i + 1) (by omega)
      rw [show ((i + 1 : Nat) : Int) = (i : Int) + 1 by omega] at h2
      refine aM_findJoint [2] 30 (fun hM => ?_)
      refine ⟨by omega, ite_i (fun q => ?_) (fun q => ?_)⟩
      · refine ⟨⟨by decide, by omega, by omega, by omega, by omega⟩, ?_⟩
        unfold clp at hv
        rw [if_pos q] at hv
        rw [wr_step (by omega) hv]
        exact AJ.wk h2 ⟨rfl, rfl, rfl, trivial⟩
      · refine ⟨⟨by decide, by omega, by omega, by omega, by omega⟩, ?_⟩
        unfold clp at hv
        rw [if_neg q] at hv
        rw [wr_step (by omega) hv]
        exact AJ.wk h2 ⟨rfl, rfl, rfl, trivial⟩
    refine aM_findJoint [127, 70] 60 (fun hM => ?_)
    refine ⟨by omega, ite_i (fun q => by omega) (fun q => ?_)⟩
    refine ⟨by omega, ite_i (fun q => ?_) (fun q => ?_)⟩
    · have hc := hC (by omega) (i + 1) (by omega) (by omega)
      have f1 : (wr M 36 (6 * k) (jtV M0 M k) i) 35 (6 * (M0 24 10 + k) + (i + 1)) = M 35 (6 * (M0 24 10 + k) + (i + 1)) := wr_ne (by omega)
      have f2 : (wr M 36 (6 * k) (jtV M0 M k) i) 35 (6 * (M0 24 11 + k) + (i + 1)) = M 35 (6 * (M0 24 11 + k) + (i + 1)) := wr_ne (by omega)
      have e0 : clp (M 35 (6 * (M0 24 10 + k) + (i + 1)) + M 35 (6 * (M0 24 11 + k) + (i + 1))) = jtV M0 M k (i + 1) := by unfold jtV; rw [if_pos (by omega)]
      have f0 := fin _ 1 (by omega) (by omega) e0
      refine ⟨R32_1, ?_⟩
      conv => whnf
      rw [e10]
      refine ⟨by omega, ?_⟩
      conv => whnf
      rw [e11]
      refine ⟨by omega, ?_⟩
      rw [f1, f2]
      have inner : AJ 5 0 0 mM_findJoint (Vo (S0 N) (wr M 36 (6 * k) (jtV M0 M k) 5)) 0 0 70 [some (.inr 24), some (.inl k), some (.inl (i + 1)), some (.inl 1), some (.inl (M 35 (6 * (M0 24 10 + k) + (i + 1)) + M 35 (6 * (M0 24 11 + k) + (i + 1)))), some (.inl 1)] [] (S0 N) (wr M 36 (6 * k) (jtV M0 M k) i) := by
        refine aM_findJoint [127] 40 (fun hM => ?_)
        exact ⟨by decide, R32_1, AJ.wk f0 ⟨rfl, rfl, rfl, rfl, rfl, trivial⟩⟩
      exact inner
    · have hB1 := hB (by omega)
      have haf : ∀ g, 1 ≤ g → g ≤ 5 → (wr M 36 (6 * k) (jtV M0 M k) i) 36 (6 * (k + 1) + g) = M 36 (6 * (k + 1) + g) := fun g q1 q2 => wr_ne (by omega)
      have hr := m5_rng (φ := fun g => jsM M0 k (i + 1) g + M 36 (6 * (k + 1) + g)) (fun g q1 q2 => by
        have := hB1 g q1 q2
        have := jsM_rng hL.1 (k := k) (f := i + 1) (by omega) (by omega) q1 q2
        omega)
      have e1 : clp (m5 (fun g => jsM M0 k (i + 1) g + M 36 (6 * (k + 1) + g))) = jtV M0 M k (i + 1) := by
        unfold jtV; rw [if_neg (by omega)]
        unfold clp; split <;> omega
      refine ⟨R32_0, ?_⟩
      refine AJ.wk (z_joint_inner (φ := fun g => jsM M0 k (i + 1) g + M 36 (6 * (k + 1) + g)) hA1 hT hL h0 (by omega) (by omega) (by omega) (fun g q1 q2 => by rw [haf g q1 q2]; exact hB1 g q1 q2) (fun g q1 q2 => by rw [haf g q1 q2]) 5 1 1000000 none (by omega) (by omega) (by omega) (by omega) ?_) ⟨rfl, rfl, rfl, rfl, rfl, rfl, trivial⟩
      exact fin _ 0 hr.1 (Int.le_trans hr.2 (by decide)) e1
theorem z_findJoint {k : Int} (hA : Agr M0 M) (hT : TOk M0) (hL : LOk M0) (h0 : 0 ≤ k) (h1 : k < M0 24 12) (hB : k + 1 < M0 24 12 → ∀ g, 1 ≤ g → g ≤ 5 → 0 ≤ M 36 (6 * (k + 1) + g) ∧ M 36 (6 * (k + 1) + g) ≤ 1000000)
    (hC : k + 1 = M0 24 12 → ∀ g, 1 ≤ g → g ≤ 5 → 0 ≤ M 35 (6 * (M0 24 10 + k) + g) ∧ M 35 (6 * (M0 24 10 + k) + g) ≤ 1000000 ∧ 0 ≤ M 35 (6 * (M0 24 11 + k) + g) ∧ M 35 (6 * (M0 24 11 + k) + g) ≤ 1000000) : Ret 5 0 0 mM_findJoint [.inr 24, .inl k] (S0 N) M (Vo (S0 N) (wr M 36 (6 * k) (jtV M0 M k) 5)) := by
  refine eM_findJoint [2] 30 (Nat.le_of_ble_eq_true rfl) (fun hM => ?_)
  have h2 := z_joint_outer (N := N) hA hT hL h0 h1 hB hC 5 0 (by omega)
  rw [show ((0 : Nat) : Int) = 0 from rfl, wr_0] at h2
  exact h2
end Tie
