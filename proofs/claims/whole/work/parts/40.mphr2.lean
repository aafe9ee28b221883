/-! ===== the reference: phrase and prune ===== -/
section Ph2
variable {N : Nat} {M : Mm} {h : Int}
abbrev phraseK (x h i n : Int) : Prop := isH h ∧ (0 ≤ x ∧ x ≤ 25) ∧ (0 ≤ i ∧ i ≤ 28) ∧ 2 ≤ n ∧ n ≤ 12
/-- room for one more phrase of name x -/
def ph1 (M : Mm) (x : Int) : Mm := if phV M x = -9 then M else gsE M (phV M x)
def ph2 (M : Mm) : Mm := if M 24 25 = 6 then gsE M 0 else M
/-- a phrase at the end -/
def phA (M : Mm) (x h i n : Int) : Mm := mset (mset (mset (mset (mset M 43 (M 24 25) x) 44 (M 24 25) h) 45 (M 24 25) i) 46 (M 24 25) n) 24 25 (M 24 25 + 1)
def phraseE (M : Mm) (x h i n : Int) : Mm := phA (ph2 (ph1 M x)) x h i n
def phraseV (M : Mm) (x h i n : Int) : Int := if isH h then (if phraseK x h i n then ph2 (ph1 M x) 24 25 + 1 else -2) else -1
theorem PhI.p1 (hP : PhI M) (x : Int) : PhI (ph1 M x) := by
  have pr := phV_rng hP x
  unfold ph1
  split
  · exact hP
  · exact hP.gs (by omega) (by omega)
theorem PhI.p2 (hP : PhI M) : PhI (ph2 M) ∧ ph2 M 24 25 ≤ 5 := by
  have a := hP.1
  unfold ph2
  split
  · rename_i q; exact ⟨hP.gs (by omega) (by omega), by rw [gs_25]; omega⟩
  · exact ⟨hP, by omega⟩
theorem z_ph_tail {x i n : Int} (ok : phraseK x h i n) {Φ : Option Vl → Ly → Mm → Prop} (hP : PhI M) (h5 : M 24 25 ≤ 5) (kk : Φ (some (.inl (M 24 25 + 1))) (S0 N) (phA M x h i n)) :
    AJ 2 0 0 mM_phrase Φ 0 0 76 [some (.inr 24), some (.inl x), some (.inl h), some (.inl i), some (.inl n)] [] (S0 N) M := by
  obtain ⟨k1, k2, k3, k4⟩ := ok
  have a := hP.1
  have e1 : ∀ v, (mset M 43 (M 24 25) v) 24 25 = M 24 25 := fun v => mset_ne (by omega)
  refine aM_phrase [] 60 (fun hM => ?_)
  refine ⟨⟨by decide, by omega, by omega, by omega, by omega⟩, ?_⟩
  conv => whnf
  rw [e1]
  refine ⟨⟨by decide, by omega, by omega, by omega, by omega⟩, ?_⟩
  conv => whnf
  rw [mset_ne (show (24 : Nat) ≠ 44 ∨ (25 : Int) ≠ M 24 25 by omega), e1]
  refine ⟨⟨by decide, by omega, by omega, by omega, by omega⟩, ?_⟩
  conv => whnf
  rw [mset_ne (show (24 : Nat) ≠ 45 ∨ (25 : Int) ≠ M 24 25 by omega), mset_ne (show (24 : Nat) ≠ 44 ∨ (25 : Int) ≠ M 24 25 by omega), e1]
  refine ⟨⟨by decide, by omega, by omega, by omega, by omega⟩, ?_⟩
  conv => whnf
  rw [mset_ne (show (24 : Nat) ≠ 46 ∨ (25 : Int) ≠ M 24 25 by omega), mset_ne (show (24 : Nat) ≠ 45 ∨ (25 : Int) ≠ M 24 25 by omega), mset_ne (show (24 : Nat) ≠ 44 ∨ (25 : Int) ≠ M 24 25 by omega), e1]
  refine ⟨⟨by omega, trivial⟩, ?_⟩
  conv => whnf
  rw [mset_eq]
  exact kk
theorem z_phrase {x i n : Int} (hx : R32 x) (hr : R32 h) (hi : R32 i) (hn : R32 n) (hP : PhI M) : Ret 2 0 0 mM_phrase [.inr 24, .inl x, .inl h, .inl i, .inl n] (S0 N) M (Pv (S0 N) (if phraseK x h i n then phraseE M x h i n else M) (phraseV M x h i n)) := by
  refine eM_phrase [62] 60 (Nat.le_of_ble_eq_true rfl) (fun hM => ?_)
  refine CL.bl (z_isHand hr) (Nat.le_of_ble_eq_true rfl) (fun q1 => ?_) (fun q1 => ?_)
  · have bad : ¬ phraseK x h i n → Pv (S0 N) (if phraseK x h i n then phraseE M x h i n else M) (phraseV M x h i n) (some (.inl (-2))) (S0 N) M := fun q => pv_eq (by unfold phraseV; rw [if_pos q1, if_neg q]) (by rw [if_neg q])
    refine ⟨R32_1, CL.bl (z_within hx R32_0 (by decide)) (Nat.le_of_ble_eq_true rfl) (fun q2 => ?_) (fun q2 => ?_)⟩
    · refine ⟨R32_1, CL.bl (z_within hi R32_0 (by decide)) (Nat.le_of_ble_eq_true rfl) (fun q3 => ?_) (fun q3 => ?_)⟩
      · refine ⟨R32_1, CL.bl (z_within hn (by decide) (by decide)) (Nat.le_of_ble_eq_true rfl) (fun q4 => ?_) (fun q4 => ?_)⟩
        · have ok : phraseK x h i n := ⟨q1, q2, q3, q4⟩
          have pr := phV_rng hP x
          have P1 := hP.p1 x
          have P2 := P1.p2
          have tail : AJ 2 0 0 mM_phrase (Pv (S0 N) (if phraseK x h i n then phraseE M x h i n else M) (phraseV M x h i n)) 0 0 76 [some (.inr 24), some (.inl x), some (.inl h), some (.inl i), some (.inl n)] [] (S0 N) (ph2 (ph1 M x)) := by
            refine z_ph_tail ok P2.1 P2.2 ?_
            exact pv_eq (by unfold phraseV; rw [if_pos q1, if_pos ok]) (by rw [if_pos ok]; rfl)
          have a0 := hP.1
          have mid : ∀ M1, M1 = ph1 M x → AJ 2 0 0 mM_phrase (Pv (S0 N) (if phraseK x h i n then phraseE M x h i n else M) (phraseV M x h i n)) 0 0 62 [some (.inr 24), some (.inl x), some (.inl h), some (.inl i), some (.inl n)] [] (S0 N) M1 := by
            intro M1 e
            have P1' : PhI M1 := by rw [e]; exact P1
            have a := P1'.1
            refine aM_phrase [76] 40 (fun hM => ?_)
            refine ⟨by omega, ite_i (fun q5 => ?_) (fun q5 => ?_)⟩
            · refine CL.vo (z_goes P1' (by omega) (by omega)) (Nat.le_of_ble_eq_true rfl) (fun hM2 => ?_)
              have e2 : gsE M1 0 = ph2 (ph1 M x) := by unfold ph2; rw [← e, if_pos q5]
              rw [e2]; exact tail
            · have e2 : M1 = ph2 (ph1 M x) := by unfold ph2; rw [← e, if_neg q5]
              rw [e2]; exact tail
          refine ⟨R32_1, CL.pu (z_phraseOf hx hP) (Nat.le_of_ble_eq_true rfl) ?_⟩
          refine ⟨by omega, ite_i (fun q5 => ?_) (fun q5 => ?_)⟩
          · have e : M = ph1 M x := by unfold ph1; rw [if_pos q5]
            exact mid M e
          · refine CL.pu (z_phraseOf hx hP) (Nat.le_of_ble_eq_true rfl) ?_
            refine CL.vo (z_goes hP (by omega) (by omega)) (Nat.le_of_ble_eq_true rfl) (fun hM2 => ?_)
            have e : gsE M (phV M x) = ph1 M x := by unfold ph1; rw [if_neg q5]
            exact mid _ e
        · exact ⟨R32_0, bad (fun z => q4 z.2.2.2)⟩
      · exact ⟨R32_0, bad (fun z => q3 z.2.2.1)⟩
    · exact ⟨R32_0, bad (fun z => q2 z.2.1)⟩
  · exact ⟨R32_0, pv_eq (by unfold phraseV; rw [if_neg q1]) (by rw [if_neg (fun z => q1 z.1)])⟩
/-- the phrases of hand h that want more than n notes go, of the first p -/
def prE (h n : Int) : Nat → Mm → Mm
  | 0, M => M
  | p + 1, M => prE h n p (if M 44 p = h ∧ n < M 45 p + M 46 p then gsE M p else M)
theorem prE_ok {n : Int} : ∀ (p : Nat) (M : Mm), PhI M → (p : Int) ≤ M 24 25 → PhI (prE h n p M) ∧ prE h n p M 24 25 ≤ M 24 25 := by
  intro p
  induction p with
  | zero => intro M hP h1; exact ⟨hP, Int.le_refl _⟩
  | succ p ih =>
    intro M hP h1
    unfold prE
    split
    · have := ih (gsE M p) (hP.gs (by omega) (by omega)) (by rw [gs_25]; omega)
      rw [gs_25] at this
      exact ⟨this.1, by omega⟩
    · exact ih M hP (by omega)
def pruneV (M : Mm) (h : Int) : Int := if isH h then M 24 25 - prE h (cnt (fK M h) 30) (M 24 25).toNat M 24 25 else -1
theorem z_prune (hr : R32 h) (hP : PhI M) : Ret 2 0 0 mM_prune [.inr 24, .inl h] (S0 N) M (Pv (S0 N) (if isH h then prE h (cnt (fK M h) 30) (M 24 25).toNat M else M) (pruneV M h)) := by
  have cr := cnt_rng (fK M h) 30
  have a := hP.1
  refine eM_prune [25] 40 (Nat.le_of_ble_eq_true rfl) (fun hM => ?_)
  refine CL.bl (z_isHand hr) (Nat.le_of_ble_eq_true rfl) (fun q => ?_) (fun q => ?_)
  · refine ⟨R32_1, CL.pu (z_notesOf q) (Nat.le_of_ble_eq_true rfl) ?_⟩
    generalize hn : cnt (fK M h) 30 = n at *
    have loop : ∀ (p : Nat) (M1 : Mm), PhI M1 → (p : Int) ≤ M1 24 25 → prE h n p M1 = prE h n (M 24 25).toNat M → AJ 2 0 0 mM_prune (Pv (S0 N) (if isH h then prE h n (M 24 25).toNat M else M) (pruneV M h)) 0 0 25 [some (.inr 24), some (.inl h), some (.inl (M 24 25)), some (.inl n), some (.inl ((p : Int) - 1))] [] (S0 N) M1 := by
      intro p
      induction p with
      | zero =>
        intro M1 P1 h1 e
        have e' : M1 = prE h n (M 24 25).toNat M := e
        have a1 := P1.1
        refine aM_prune [] 40 (fun hM => ?_)
        refine ⟨by decide, pv_eq ?_ ?_⟩
        · unfold pruneV; rw [if_pos q, hn, ← e']
        · rw [if_pos q]; exact e'
      | succ p ih =>
        intro M1 P1 h1 e
        have a1 := P1.1
        have b1 := P1.2 p (by omega) (by omega)
        have es : (((p + 1 : Nat) : Int) - 1) = p := by omega
        rw [es]
        have e : prE h n p (if M1 44 p = h ∧ n < M1 45 p + M1 46 p then gsE M1 p else M1) = prE h n (M 24 25).toNat M := e
        obtain ⟨pi, hp⟩ : ∃ pi : Int, pi = p := ⟨_, rfl⟩
        rw [← hp] at e b1 ⊢
        refine aM_prune [25] 40 (fun hM => ?_)
        refine ⟨by omega, ite_i (fun q => by omega) (fun q2 => ?_)⟩
        refine ⟨by omega, ⟨by omega, by omega⟩, ite_i (fun q3 => ?_) (fun q3 => ?_)⟩
        · refine ⟨by omega, by omega, ⟨by omega, by omega⟩, ite_i (fun q4 => ?_) (fun q4 => ?_)⟩
          · refine CL.vo (z_goes P1 (by omega) (by omega)) (Nat.le_of_ble_eq_true rfl) (fun hM2 => ?_)
            rw [if_pos ⟨q3, q4⟩] at e
            have ih' := ih _ (P1.gs (p := pi) (by omega) (by omega)) (by rw [gs_25]; omega) e
            rw [← hp] at ih'
            exact ih'
          · rw [if_neg (fun z => q4 z.2)] at e
            have ih' := ih _ P1 (by omega) e
            rw [← hp] at ih'
            exact ih'
        · rw [if_neg (fun z => q3 z.1)] at e
          have ih' := ih _ P1 (by omega) e
          rw [← hp] at ih'
          exact ih'
    have h2 := loop (M 24 25).toNat M hP (by omega) rfl
    rw [show (((M 24 25).toNat : Int)) = M 24 25 by omega] at h2
    exact h2
  · exact ⟨R32_0, pv_eq (by unfold pruneV; rw [if_neg q]) (by rw [if_neg q])⟩
end Ph2
