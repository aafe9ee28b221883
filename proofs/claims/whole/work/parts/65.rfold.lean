/-! ===== the class: addFrom, leadTo ===== -/
section Rf
variable {N : Nat} {M : Mm}
/-- row `to` of width v gets row `from` added -/
def adV (M : Mm) (c : Nat) (v to fr f : Int) : Int := M c (v * to + f - 1) + M c (v * fr + f - 1)
theorem t_addFrom {c z : Nat} {v to fr : Int} (hc : (c = 14 ∧ v = 5 ∧ z = 150) ∨ (c = 15 ∧ v = 25 ∧ z = 750)) (h0 : 0 ≤ to) (h1 : to < fr) (h2 : fr < 30) (hB : ∀ f, 1 ≤ f → f ≤ v → (-10000000 ≤ M c (v * to + f - 1) ∧ M c (v * to + f - 1) ≤ 10000000) ∧ -10000000 ≤ M c (v * fr + f - 1) ∧ M c (v * fr + f - 1) ≤ 10000000) : Ret 1 0 0 mR_addFrom [.inr c, .inl to, .inl fr, .inl v] (S0 N) M (Vo (S0 N) (wr M c (v * to - 1) (adV M c v to fr) v)) := by
  have loop : ∀ (n i : Nat), (i : Int) + n = v → AJ 1 0 0 mR_addFrom (Vo (S0 N) (wr M c (v * to - 1) (adV M c v to fr) v)) 0 0 3 [some (.inr c), some (.inl to), some (.inl fr), some (.inl v), some (.inl i)] [] (S0 N) (wr M c (v * to - 1) (adV M c v to fr) i) := by
    intro n
    induction n with
    | zero =>
      intro i hi
      have e : (i : Int) = v := by omega
      rw [e]
      rcases hc with ⟨rfl, rfl, rfl⟩ | ⟨rfl, rfl, rfl⟩
      all_goals
        refine aR_addFrom [] 30 (fun hM => ?_)
        exact ⟨by decide, vo_eq rfl⟩
    | succ n ih =>
      intro i hi
      have hb := hB ((i : Int) + 1) (by omega) (by omega)
      have h3 := ih (i + 1) (by omega)
      rw [show ((i + 1 : Nat) : Int) = (i : Int) + 1 by omega] at h3
      rcases hc with ⟨rfl, rfl, rfl⟩ | ⟨rfl, rfl, rfl⟩
      · have e1 : (wr M 14 (5 * to - 1) (adV M 14 5 to fr) i) 14 (to * 5 + i) = M 14 (5 * to + ((i : Int) + 1) - 1) := by rw [wr_ne (by omega), show to * 5 + (i : Int) = 5 * to + ((i : Int) + 1) - 1 by omega]
        have e2 : (wr M 14 (5 * to - 1) (adV M 14 5 to fr) i) 14 (fr * 5 + i) = M 14 (5 * fr + ((i : Int) + 1) - 1) := by rw [wr_ne (by omega), show fr * 5 + (i : Int) = 5 * fr + ((i : Int) + 1) - 1 by omega]
        refine aR_addFrom [3] 40 (fun hM => ?_)
        refine ⟨by omega, ite_i (fun _ => ?_) (fun q => by omega)⟩
        refine CL.pu (t_at (n := 150) rfl (by omega) (by omega) (Nat.le_of_ble_eq_true rfl)) (Nat.le_of_ble_eq_true rfl) (CL.pu (t_at (n := 150) rfl (by omega) (by omega) (Nat.le_of_ble_eq_true rfl)) (Nat.le_of_ble_eq_true rfl) ?_)
        rw [e1, e2]
        refine CL.vo (t_store (n := 150) rfl (by decide) (by omega) (by omega) (Nat.le_of_ble_eq_true rfl) (by omega)) (Nat.le_of_ble_eq_true rfl) (fun hM2 => ?_)
        rw [show to * 5 + (i : Int) = (5 * to - 1) + ((i : Int) + 1) by omega, wr_step (by omega) (show M 14 (5 * to + ((i : Int) + 1) - 1) + M 14 (5 * fr + ((i : Int) + 1) - 1) = adV M 14 5 to fr ((i : Int) + 1) from rfl)]
        exact h3
      · have e1 : (wr M 15 (25 * to - 1) (adV M 15 25 to fr) i) 15 (to * 25 + i) = M 15 (25 * to + ((i : Int) + 1) - 1) := by rw [wr_ne (by omega), show to * 25 + (i : Int) = 25 * to + ((i : Int) + 1) - 1 by omega]
        have e2 : (wr M 15 (25 * to - 1) (adV M 15 25 to fr) i) 15 (fr * 25 + i) = M 15 (25 * fr + ((i : Int) + 1) - 1) := by rw [wr_ne (by omega), show fr * 25 + (i : Int) = 25 * fr + ((i : Int) + 1) - 1 by omega]
        refine aR_addFrom [3] 40 (fun hM => ?_)
        refine ⟨by omega, ite_i (fun _ => ?_) (fun q => by omega)⟩
        refine CL.pu (t_at (n := 750) rfl (by omega) (by omega) (Nat.le_of_ble_eq_true rfl)) (Nat.le_of_ble_eq_true rfl) (CL.pu (t_at (n := 750) rfl (by omega) (by omega) (Nat.le_of_ble_eq_true rfl)) (Nat.le_of_ble_eq_true rfl) ?_)
        rw [e1, e2]
        refine CL.vo (t_store (n := 750) rfl (by decide) (by omega) (by omega) (Nat.le_of_ble_eq_true rfl) (by omega)) (Nat.le_of_ble_eq_true rfl) (fun hM2 => ?_)
        rw [show to * 25 + (i : Int) = (25 * to - 1) + ((i : Int) + 1) by omega, wr_step (by omega) (show M 15 (25 * to + ((i : Int) + 1) - 1) + M 15 (25 * fr + ((i : Int) + 1) - 1) = adV M 15 25 to fr ((i : Int) + 1) from rfl)]
        exact h3
  have L := loop v.toNat 0 (by omega)
  rw [show ((0 : Nat) : Int) = 0 from rfl, wr_0] at L
  rcases hc with ⟨rfl, rfl, rfl⟩ | ⟨rfl, rfl, rfl⟩
  all_goals
    refine eR_addFrom [3] 30 (Nat.le_of_ble_eq_true rfl) (fun hM => ?_)
    exact L
/-- the table's row at the second phrase, as both begin with finger s (1 to 5) -/
def ldM (M : Mm) (s : Int) : Mm := wr M 16 (5 * M 13 8 - 1) (fun f => if f = s then 0 else 100000) 5
theorem t_leadTo {s : Int} (hs0 : 0 ≤ s) (hs1 : s ≤ 4) (h7 : 0 ≤ M 13 7) (h78 : M 13 7 < M 13 8) (h8 : M 13 8 < 30) (h6 : M 13 6 ≤ 30) (hB : SwB (ldM M (s + 1)) (M 13 8 - 1) (M 13 7)) : Ret 4 0 0 mR_leadTo [.inr 13, .inl s] (S0 N) M (Vo (S0 N) (swp (M 13 8 - M 13 7).toNat (M 13 8 - 1) (ldM M (s + 1)))) := by
  have loop : ∀ (n i : Nat), i + n = 5 → AJ 4 0 0 mR_leadTo (Vo (S0 N) (swp (M 13 8 - M 13 7).toNat (M 13 8 - 1) (ldM M (s + 1)))) 0 0 2 [some (.inr 13), some (.inl s), some (.inl i)] [] (S0 N) (wr M 16 (5 * M 13 8 - 1) (fun f => if f = s + 1 then 0 else 100000) i) := by
    intro n
    induction n with
    | zero =>
      intro i hi
      have : i = 5 := by omega
      subst this
      have e8 : (ldM M (s + 1)) 13 8 = M 13 8 := wr_ne (by omega)
      have e7 : (ldM M (s + 1)) 13 7 = M 13 7 := wr_ne (by omega)
      have e6 : (ldM M (s + 1)) 13 6 = M 13 6 := wr_ne (by omega)
      have T := t_sweep (N := N) (M := ldM M (s + 1)) (fr := M 13 8 - 1) (to := M 13 7) h7 (by omega) (by omega) (by omega) hB
      rw [show M 13 8 - 1 + 1 - M 13 7 = M 13 8 - M 13 7 by omega] at T
      show AJ 4 0 0 mR_leadTo _ 0 0 2 _ [] (S0 N) (ldM M (s + 1))
      refine aR_leadTo [] 40 (fun hM => ?_)
      refine ⟨by decide, ?_⟩
      conv => whnf
      rw [e8, e7]
      exact CL.vo T (Nat.le_of_ble_eq_true rfl) (fun hM2 => vo_eq rfl)
    | succ n ih =>
      intro i hi
      have e8 : (wr M 16 (5 * M 13 8 - 1) (fun f => if f = s + 1 then 0 else 100000) i) 13 8 = M 13 8 := wr_ne (by omega)
      have h3 := ih (i + 1) (by omega)
      rw [show ((i + 1 : Nat) : Int) = (i : Int) + 1 by omega] at h3
      have st : ∀ w : Int, w = (if (i : Int) + 1 = s + 1 then 0 else 100000) → mset (wr M 16 (5 * M 13 8 - 1) (fun f => if f = s + 1 then 0 else 100000) i) 16 (M 13 8 * 5 + i) w = wr M 16 (5 * M 13 8 - 1) (fun f => if f = s + 1 then 0 else 100000) ((i : Int) + 1) := fun w hw => by
        rw [show M 13 8 * 5 + (i : Int) = (5 * M 13 8 - 1) + ((i : Int) + 1) by omega]; exact wr_step (by omega) hw
      refine aR_leadTo [2] 40 (fun hM => ?_)
      refine ⟨by omega, ite_i (fun _ => ?_) (fun q => by omega)⟩
      refine ⟨by omega, ite_i (fun q => ?_) (fun q => ?_)⟩
      · refine CL.vo (t_store (n := 150) rfl (by decide) (by omega) (by omega) (Nat.le_of_ble_eq_true rfl) (by decide)) (Nat.le_of_ble_eq_true rfl) (fun hM2 => ?_)
        rw [e8, st _ (by rw [if_pos (by omega)])]
        exact h3
      · refine CL.vo (t_store (n := 150) rfl (by decide) (by omega) (by omega) (Nat.le_of_ble_eq_true rfl) (by decide)) (Nat.le_of_ble_eq_true rfl) (fun hM2 => ?_)
        rw [e8, st _ (by rw [if_neg (by omega)])]
        exact h3
  refine eR_leadTo [2] 30 (Nat.le_of_ble_eq_true rfl) (fun hM => ?_)
  have L := loop 5 0 (by omega)
  rw [show ((0 : Nat) : Int) = 0 from rfl, wr_0] at L
  exact L
end Rf
