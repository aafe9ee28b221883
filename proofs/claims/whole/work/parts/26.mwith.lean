/-! pure: what is left in a hand with a tie -/
/-- between the parts, as both begin with x -/
def rsX (M : Mm) (x k f : Int) : Int := bz (goM M) (M 24 11 - 1) (fun f => stM M (M 24 11 - 1) f x) k f
/-- the end -/
def rsT (M : Mm) (k f : Int) : Int := bz (goM M) (M 24 7 - 1) (fun _ => 0) k f
/-- both parts at once -/
def jtX (M : Mm) (x k f : Int) : Int := bz (jsM M) (M 24 12 - 1) (fun f => clp (rsX M x (M 24 10 + M 24 12 - 1) f + rsT M (M 24 11 + M 24 12 - 1) f)) k f
def wtX (M : Mm) (x : Int) : Int := if okM M (M 24 10) x ∧ okM M (M 24 11) x then clp (jtX M x 0 x + ncM M (M 24 11) x) else 1000000
/-- the beginning -/
def rsH (M : Mm) (k f : Int) : Int := bz (goM M) (M 24 10) (wtX M) k f
theorem rsX_rng {M : Mm} (hI : RuI M) {x k f : Int} (hx0 : 1 ≤ x) (hx1 : x ≤ 5) (hk : k ≤ M 24 11 - 1) (hf0 : 1 ≤ f) (hf1 : f ≤ 5) : 0 ≤ rsX M x k f ∧ rsX M x k f ≤ 1000000 := by
  refine bz_rng (fun k f g h1 h2 h3 h4 => ?_) (fun f h1 h2 => ?_) hk hf0 hf1
  · have := goM_rng hI (k := k) h1 h2 h3 h4; omega
  · have := stv_rng hI (hand := M 24 6) (a := M 31 (M 24 11 - 1)) (b := M 31 (M 24 11 - 1 + 1)) h1 h2 hx0 hx1
    unfold stM; omega
theorem rsT_rng {M : Mm} (hI : RuI M) {k f : Int} (hk : k ≤ M 24 7 - 1) (hf0 : 1 ≤ f) (hf1 : f ≤ 5) : 0 ≤ rsT M k f ∧ rsT M k f ≤ 1000000 := by
  refine bz_rng (fun k f g h1 h2 h3 h4 => ?_) (fun f h1 h2 => by omega) hk hf0 hf1
  have := goM_rng hI (k := k) h1 h2 h3 h4; omega
theorem jtX_rng {M : Mm} (hI : RuI M) (hT : TOk M) {x k f : Int} (hx0 : 1 ≤ x) (hx1 : x ≤ 5) (hk : k ≤ M 24 12 - 1) (hf0 : 1 ≤ f) (hf1 : f ≤ 5) : 0 ≤ jtX M x k f ∧ jtX M x k f ≤ 1000000 := by
  obtain ⟨t1, t2, t3, t4⟩ := hT
  refine bz_rng (fun k f g h1 h2 h3 h4 => (jsM_rng hI h1 h2 h3 h4).1) (fun f h1 h2 => ?_) hk hf0 hf1
  have q1 := rsX_rng hI (k := M 24 10 + M 24 12 - 1) hx0 hx1 (by omega) h1 h2
  have q2 := rsT_rng hI (k := M 24 11 + M 24 12 - 1) (by omega) h1 h2
  unfold clp
  split <;> omega
theorem wtX_rng {M : Mm} (hI : RuI M) (hT : TOk M) {x : Int} (hx0 : 1 ≤ x) (hx1 : x ≤ 5) : 0 ≤ wtX M x ∧ wtX M x ≤ 1000000 := by
  have h1 := jtX_rng hI hT (k := 0) hx0 hx1 (by have := hT.1; omega) hx0 hx1
  have h2 := ncv_rng hI (M 31 (M 24 11)) x
  unfold wtX
  split
  · unfold clp ncM; split <;> omega
  · omega
theorem rsH_rng {M : Mm} (hI : RuI M) (hT : TOk M) {k f : Int} (hk : k ≤ M 24 10) (hf0 : 1 ≤ f) (hf1 : f ≤ 5) : 0 ≤ rsH M k f ∧ rsH M k f ≤ 1000000 := by
  refine bz_rng (fun k f g h1 h2 h3 h4 => ?_) (fun f h1 h2 => wtX_rng hI hT h1 h2) hk hf0 hf1
  have := goM_rng hI (k := k) h1 h2 h3 h4; omega
section With
variable {N : Nat} {M0 : Mm}
/-- rows lo to hi of joint -/
def JK (Ma Mb : Mm) (lo hi : Int) (V : Int → Int → Int) : Prop := (∀ k f, lo ≤ k → k ≤ hi → 1 ≤ f → f ≤ 5 → Mb 36 (6 * k + f) = V k f) ∧ ∀ c j, ¬ (c = 36 ∧ 6 * lo + 1 ≤ j ∧ j ≤ 6 * hi + 5) → Mb c j = Ma c j
theorem JK.st {Ma Mb : Mm} {k hi : Int} {V : Int → Int → Int} {U : Int → Int} (h : JK Ma Mb (k + 1) hi V) (hk : k ≤ hi) (hU : ∀ f, 1 ≤ f → f ≤ 5 → U f = V k f) : JK Ma (wr Mb 36 (6 * k) U 5) k hi V := by
  refine ⟨fun k' f h1 h2 h3 h4 => ?_, fun c j hc => ?_⟩
  · by_cases hkk : k' = k
    · subst hkk
      rw [wr_eq h3 h4]; exact hU f h3 h4
    · rw [wr_ne (by omega)]; exact h.1 k' f (by omega) h2 h3 h4
  · rw [wr_ne (by omega)]; exact h.2 c j (by omega)
/-- behind findWith x: the rows between the parts, joint, with x; the rest as it was -/
def WX (M0 Ma Mb : Mm) (x : Int) : Prop := (∀ k f, M0 24 10 + M0 24 12 - 1 ≤ k → k ≤ M0 24 11 - 1 → 1 ≤ f → f ≤ 5 → Mb 35 (6 * k + f) = rsX M0 x k f) ∧ (∀ k f, 0 ≤ k → k ≤ M0 24 12 - 1 → 1 ≤ f → f ≤ 5 → Mb 36 (6 * k + f) = jtX M0 x k f) ∧ Mb 37 x = wtX M0 x ∧
  ∀ c j, ¬ (c = 35 ∧ 6 * (M0 24 10 + M0 24 12 - 1) + 1 ≤ j ∧ j ≤ 6 * (M0 24 11 - 1) + 5) → c ≠ 36 → ¬ (c = 37 ∧ j = x) → Mb c j = Ma c j
theorem z_with_l1 {x : Int} {M : Mm} {Φ : Option Vl → Ly → Mm → Prop} (hA : Agr M0 M) (hT : TOk M0) (hL : LOk M0) (hx0 : 1 ≤ x) (hx1 : x ≤ 5) (kk : AJ 6 0 0 mM_findWith Φ 0 0 43 [some (.inr 24), some (.inl x)] [] (S0 N) (wr M 35 (6 * (M0 24 11 - 1)) (fun f => stM M0 (M0 24 11 - 1) f x) 5)) :
    ∀ (n i : Nat) (L3 : Option Vl), i + n = 5 → AJ 6 0 0 mM_findWith Φ 0 0 2 [some (.inr 24), some (.inl x), some (.inl (i + 1)), L3] [] (S0 N) (wr M 35 (6 * (M0 24 11 - 1)) (fun f => stM M0 (M0 24 11 - 1) f x) i) := by
  intro n
  induction n with
  | zero =>
    intro i L3 hi
    have : i = 5 := by omega
    subst this
    refine aM_findWith [43] 30 (fun hM => ?_)
    exact ⟨by decide, AJ.wk kk ⟨rfl, rfl, trivial⟩⟩
  | succ n ih =>
    intro i L3 hi
    obtain ⟨t1, t2, t3, t4⟩ := id hT
    have l4 := hL.2.2.2.1
    have hA1 : Agr M0 (wr M 35 (6 * (M0 24 11 - 1)) (fun f => stM M0 (M0 24 11 - 1) f x) i) := hA.wr (by omega) _ _ _
    have e11 := hA1 24 11 (by omega)
    have hst := stv_rng hL.1 (hand := M0 24 6) (a := M0 31 (M0 24 11 - 1)) (b := M0 31 (M0 24 11 - 1 + 1)) (f := i + 1) (g := x) (by omega) (by omega) hx0 hx1
    have h2 := ih (i + 1)
    rw [show ((i + 1 : Nat) : Int) = (i : Int) + 1 by omega] at h2
    refine aM_findWith [2] 30 (fun hM => ?_)
    refine ⟨by omega, ite_i (fun q => by omega) (fun q => ?_)⟩
    conv => whnf
    rw [e11]
    refine CL.pu (z_stepAt hA1 hL (by omega) (by omega) (by omega) (by omega) hx0 hx1) (Nat.le_of_ble_eq_true rfl) ?_
    conv => whnf
    rw [e11]
    refine ⟨⟨by decide, by omega, by omega, by omega, by unfold stM; omega⟩, ?_⟩
    rw [wr_step (by omega) rfl]
    exact h2 _ (by omega)
theorem z_with_l2 {x : Int} {Ma : Mm} {Φ : Option Vl → Ly → Mm → Prop} (hA : Agr M0 Ma) (hT : TOk M0) (hL : LOk M0) (hx0 : 1 ≤ x) (hx1 : x ≤ 5) (hMa : ∀ f, 1 ≤ f → f ≤ 5 → Ma 35 (6 * (M0 24 11 - 1) + f) = rsX M0 x (M0 24 11 - 1) f)
    (kk : ∀ Mb, BK Ma Mb (M0 24 10 + M0 24 12 - 1) (M0 24 11 - 2) (rsX M0 x) → AJ 6 0 0 mM_findWith Φ 0 0 76 [some (.inr 24), some (.inl x)] [] (S0 N) Mb) :
    ∀ (n : Nat) (k : Int) (Mk : Mm), k + 1 = M0 24 10 + M0 24 12 - 1 + n → k ≤ M0 24 11 - 2 → BK Ma Mk (k + 1) (M0 24 11 - 2) (rsX M0 x) → AJ 6 0 0 mM_findWith Φ 0 0 50 [some (.inr 24), some (.inl x), some (.inl k)] [] (S0 N) Mk := by
  intro n
  obtain ⟨t1, t2, t3, t4⟩ := id hT
  have l4 := hL.2.2.2.1
  induction n with
  | zero =>
    intro k Mk hk hk2 hB
    have hA1 := hB.agr hA
    have e10 := hA1 24 10 (by omega)
    have e12 := hA1 24 12 (by omega)
    refine aM_findWith [76] 30 (fun hM => ?_)
    refine ⟨by omega, ite_i (fun q => ?_) (fun q => by omega)⟩
    refine AJ.wk (kk Mk ?_) ⟨rfl, rfl, trivial⟩
    rw [show k + 1 = M0 24 10 + M0 24 12 - 1 by omega] at hB
    exact hB
  | succ n ih =>
    intro k Mk hk hk2 hB
    have hA1 := hB.agr hA
    have e10 := hA1 24 10 (by omega)
    have e12 := hA1 24 12 (by omega)
    have haf : ∀ g, 1 ≤ g → g ≤ 5 → aft Mk (k + 1) g = rsX M0 x (k + 1) g := by
      intro g h1 h2
      unfold aft
      rw [if_neg (by omega)]
      by_cases hkk : k + 1 = M0 24 11 - 1
      · rw [hkk, hB.2 35 _ (by omega)]; exact hMa g h1 h2
      · exact hB.1 (k + 1) g (by omega) (by omega) h1 h2
    have hV : ∀ f, 1 ≤ f → f ≤ 5 → bkV M0 Mk k f = rsX M0 x k f := by
      intro f h1 h2
      unfold bkV rsX
      rw [if_neg (by omega), bz_s (by omega)]
      exact m5_congr (fun g q1 q2 => by rw [haf g q1 q2]; rfl)
    refine aM_findWith [50] 30 (fun hM => ?_)
    refine ⟨by omega, ite_i (fun q => by omega) (fun q => ?_)⟩
    refine CL.vo (z_back hA1 hL (by omega) (by omega) (fun _ g q1 q2 => by
      have := rsX_rng hL.1 (k := k + 1) hx0 hx1 (by omega) q1 q2
      rw [haf g q1 q2]; omega)) (Nat.le_of_ble_eq_true rfl) (fun hM => ?_)
    refine ih (k + -1) _ (by omega) (by omega) ?_
    rw [show k + -1 + 1 = k by omega]
    exact hB.st hk2 hV
theorem z_with_l3 {x : Int} {Ma : Mm} {Φ : Option Vl → Ly → Mm → Prop} (hA : Agr M0 Ma) (hT : TOk M0) (hL : LOk M0) (hx0 : 1 ≤ x) (hx1 : x ≤ 5) (h1 : ∀ f, 1 ≤ f → f ≤ 5 → Ma 35 (6 * (M0 24 10 + M0 24 12 - 1) + f) = rsX M0 x (M0 24 10 + M0 24 12 - 1) f) (h2 : ∀ f, 1 ≤ f → f ≤ 5 → Ma 35 (6 * (M0 24 11 + M0 24 12 - 1) + f) = rsT M0 (M0 24 11 + M0 24 12 - 1) f)
    (kk : ∀ Mb, JK Ma Mb 0 (M0 24 12 - 1) (jtX M0 x) → AJ 6 0 0 mM_findWith Φ 0 0 98 [some (.inr 24), some (.inl x)] [] (S0 N) Mb) :
    ∀ (n : Nat) (k : Int) (Mk : Mm), k + 1 = n → k ≤ M0 24 12 - 1 → JK Ma Mk (k + 1) (M0 24 12 - 1) (jtX M0 x) → AJ 6 0 0 mM_findWith Φ 0 0 83 [some (.inr 24), some (.inl x), some (.inl k)] [] (S0 N) Mk := by
  intro n
  obtain ⟨t1, t2, t3, t4⟩ := id hT
  have l4 := hL.2.2.2.1
  induction n with
  | zero =>
    intro k Mk hk hk2 hB
    refine aM_findWith [98] 30 (fun hM => ?_)
    refine ⟨by omega, ite_i (fun q => ?_) (fun q => by omega)⟩
    refine AJ.wk (kk Mk ?_) ⟨rfl, rfl, trivial⟩
    rw [show k + 1 = 0 by omega] at hB
    exact hB
  | succ n ih =>
    intro k Mk hk hk2 hB
    have hA1 : Agr M0 Mk := fun c j hc => by rw [hB.2 c j (by omega)]; exact hA c j hc
    have g35 : ∀ j, Mk 35 j = Ma 35 j := fun j => hB.2 35 j (by omega)
    have hV : ∀ f, 1 ≤ f → f ≤ 5 → jtV M0 Mk k f = jtX M0 x k f := by
      intro f q1 q2
      unfold jtV
      by_cases hl : k = M0 24 12 - 1
      · rw [if_pos hl, g35, g35, show M0 24 10 + k = M0 24 10 + M0 24 12 - 1 by omega, show M0 24 11 + k = M0 24 11 + M0 24 12 - 1 by omega, h1 f q1 q2, h2 f q1 q2, hl]
        unfold jtX; rw [bz_e]
      · rw [if_neg hl]
        unfold jtX
        rw [bz_s (by omega)]
        exact m5_congr (fun g q3 q4 => by rw [hB.1 (k + 1) g (by omega) (by omega) q3 q4]; rfl)
    refine aM_findWith [83] 30 (fun hM => ?_)
    refine ⟨by omega, ite_i (fun q => by omega) (fun q => ?_)⟩
    refine CL.vo (z_findJoint hA1 hT hL (by omega) (by omega) (fun q1 g q2 q3 => ?_) (fun q1 g q2 q3 => ?_)) (Nat.le_of_ble_eq_true rfl) (fun hM => ?_)
    · rw [hB.1 (k + 1) g (by omega) (by omega) q2 q3]
      exact jtX_rng hL.1 hT hx0 hx1 (by omega) q2 q3
    · rw [g35, g35, show M0 24 10 + k = M0 24 10 + M0 24 12 - 1 by omega, show M0 24 11 + k = M0 24 11 + M0 24 12 - 1 by omega, h1 g q2 q3, h2 g q2 q3]
      have r1 := rsX_rng hL.1 (k := M0 24 10 + M0 24 12 - 1) hx0 hx1 (by omega) q2 q3
      have r2 := rsT_rng hL.1 (k := M0 24 11 + M0 24 12 - 1) (by omega) q2 q3
      exact ⟨r1.1, r1.2, r2.1, r2.2⟩
    · refine ih (k + -1) _ (by omega) (by omega) ?_
      rw [show k + -1 + 1 = k by omega]
      exact hB.st hk2 hV
theorem z_findWith {x : Int} {M : Mm} (hA : Agr M0 M) (hT : TOk M0) (hL : LOk M0) (hx0 : 1 ≤ x) (hx1 : x ≤ 5) (h2 : ∀ f, 1 ≤ f → f ≤ 5 → M 35 (6 * (M0 24 11 + M0 24 12 - 1) + f) = rsT M0 (M0 24 11 + M0 24 12 - 1) f) : Ret 6 0 0 mM_findWith [.inr 24, .inl x] (S0 N) M (fun r S' M' => r = none ∧ S' = S0 N ∧ WX M0 M M' x) := by
  obtain ⟨t1, t2, t3, t4⟩ := id hT
  have l4 := hL.2.2.2.1
  have hA1 : Agr M0 (wr M 35 (6 * (M0 24 11 - 1)) (fun f => stM M0 (M0 24 11 - 1) f x) 5) := hA.wr (by omega) _ _ _
  have c98 : ∀ Ma Mb, Agr M0 Ma → BK (wr M 35 (6 * (M0 24 11 - 1)) (fun f => stM M0 (M0 24 11 - 1) f x) 5) Ma (M0 24 10 + M0 24 12 - 1) (M0 24 11 - 2) (rsX M0 x) → JK Ma Mb 0 (M0 24 12 - 1) (jtX M0 x) → AJ 6 0 0 mM_findWith (fun r S' M' => r = none ∧ S' = S0 N ∧ WX M0 M M' x) 0 0 98 [some (.inr 24), some (.inl x)] [] (S0 N) Mb := by
    intro Ma Mb hAa hB hJ
    have hAb : Agr M0 Mb := fun c j hc => by rw [hJ.2 c j (by omega)]; exact hAa c j hc
    have e11 := hAb 24 11 (by omega)
    have e31 := hAb.c 31 (by omega)
    have e30 := hAb.c 30 (by omega)
    have hk := hL.2.2.2.2 (M0 24 11) (by omega) (by omega)
    have hj := hJ.1 0 x (by omega) (by omega) hx0 hx1
    rw [show (6 * 0 + x : Int) = x by omega] at hj
    have hjr := jtX_rng hL.1 hT (k := 0) hx0 hx1 (by omega) hx0 hx1
    have hnr := ncv_rng hL.1 (M0 31 (M0 24 11)) x
    have fin : ∀ v, v = wtX M0 x → Unit → WX M0 M (mset Mb 37 x v) x := by
      intro v hv _
      refine ⟨fun k f q1 q2 q3 q4 => ?_, fun k f q1 q2 q3 q4 => ?_, ?_, fun c j q1 q2 q3 => ?_⟩
      · rw [mset_ne (by omega), hJ.2 35 _ (by omega)]
        by_cases hkk : k = M0 24 11 - 1
        · rw [hkk, hB.2 35 _ (by omega), wr_eq q3 q4]
          unfold rsX; rw [bz_e]
        · exact hB.1 k f q1 (by omega) q3 q4
      · rw [mset_ne (by omega)]; exact hJ.1 k f q1 q2 q3 q4
      · rw [mset_eq]; exact hv
      · rw [mset_ne (by omega), hJ.2 c j (by omega), hB.2 c j (by omega), wr_ne (by omega)]
    refine aM_findWith [] 60 (fun hM => ?_)
    refine ⟨by omega, ?_⟩
    conv => whnf
    rw [e11, e31, hj]
    refine ⟨by omega, CL.pu (z_noteCost (RuI.agr hAb hL.1) (by omega) (by omega) (by omega)) (Nat.le_of_ble_eq_true rfl) ?_⟩
    rw [e30]
    refine CL.bl (z_isOfBoth hAb hT hL (by omega) t1) (Nat.le_of_ble_eq_true rfl) (fun q => ?_) (fun q => ?_)
    · rw [show M0 24 10 + 0 = M0 24 10 by omega, show M0 24 11 + 0 = M0 24 11 by omega] at q
      refine ⟨R32_1, by omega, ite_i (fun q2 => ?_) (fun q2 => ?_)⟩
      · refine ⟨⟨by decide, by omega, by omega, by omega, by omega⟩, rfl, rfl, fin _ ?_ ()⟩
        unfold wtX clp ncM; rw [if_pos q, if_pos q2]
      · refine ⟨⟨by decide, by omega, by omega, by omega, by omega⟩, rfl, rfl, fin _ ?_ ()⟩
        unfold wtX clp ncM; rw [if_pos q, if_neg q2]
    · rw [show M0 24 10 + 0 = M0 24 10 by omega, show M0 24 11 + 0 = M0 24 11 by omega] at q
      refine ⟨R32_0, ⟨by decide, by omega, by omega, by omega, by omega⟩, rfl, rfl, fin _ ?_ ()⟩
      unfold wtX; rw [if_neg q]
  have c76 : ∀ Ma, BK (wr M 35 (6 * (M0 24 11 - 1)) (fun f => stM M0 (M0 24 11 - 1) f x) 5) Ma (M0 24 10 + M0 24 12 - 1) (M0 24 11 - 2) (rsX M0 x) → AJ 6 0 0 mM_findWith (fun r S' M' => r = none ∧ S' = S0 N ∧ WX M0 M M' x) 0 0 76 [some (.inr 24), some (.inl x)] [] (S0 N) Ma := by
    intro Ma hB
    have hAa := hB.agr hA1
    have e12 := hAa 24 12 (by omega)
    refine aM_findWith [83] 30 (fun hM => ?_)
    conv => whnf
    rw [e12]
    refine z_with_l3 hAa hT hL hx0 hx1 (fun f q1 q2 => ?_) (fun f q1 q2 => ?_) (fun Mb hJ => c98 Ma Mb hAa hB hJ) (M0 24 12).toNat _ _ (by omega) (by omega) ⟨fun k f q1 q2 => by omega, fun _ _ _ => rfl⟩
    · by_cases hkk : M0 24 10 + M0 24 12 - 1 = M0 24 11 - 1
      · rw [hkk, hB.2 35 _ (by omega), wr_eq q1 q2]
        unfold rsX; rw [bz_e]
      · exact hB.1 _ f (by omega) (by omega) q1 q2
    · rw [hB.2 35 _ (by omega), wr_ne (by omega)]; exact h2 f q1 q2
  have c43 : AJ 6 0 0 mM_findWith (fun r S' M' => r = none ∧ S' = S0 N ∧ WX M0 M M' x) 0 0 43 [some (.inr 24), some (.inl x)] [] (S0 N) (wr M 35 (6 * (M0 24 11 - 1)) (fun f => stM M0 (M0 24 11 - 1) f x) 5) := by
    have e11 := hA1 24 11 (by omega)
    refine aM_findWith [50] 30 (fun hM => ?_)
    conv => whnf
    rw [e11]
    refine z_with_l2 hA1 hT hL hx0 hx1 (fun f q1 q2 => ?_) c76 (M0 24 11 - 1 - (M0 24 10 + M0 24 12 - 1)).toNat _ _ (by omega) (by omega) (BK.rf _ _ (by omega))
    rw [wr_eq q1 q2]; unfold rsX; rw [bz_e]
  refine eM_findWith [2] 30 (Nat.le_of_ble_eq_true rfl) (fun hM => ?_)
  have h3 := z_with_l1 hA hT hL hx0 hx1 c43 5 0 none (by omega)
  rw [show ((0 : Nat) : Int) = 0 from rfl, wr_0] at h3
  exact AJ.wk h3 ⟨rfl, rfl, rfl, trivial⟩
end With
