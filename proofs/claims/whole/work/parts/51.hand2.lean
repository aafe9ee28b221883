/-! ===== the class: a hand's loops ===== -/
section Hd2
variable {N : Nat} {M : Mm} {b : Nat}
abbrev isC (b k w n : Nat) : Prop := (b = 5 ∧ k = 6 ∧ w = 7 ∧ n = 8) ∨ (b = 9 ∧ k = 10 ∧ w = 11 ∧ n = 12)
/-- the notes are counted anew -/
def Rn (b k n : Nat) (M M' : Mm) : Prop := M' b 4 = cnt (M k) 30 ∧ (∀ m : Nat, m < 30 → M k m ≠ -9 → M' n (cnt (M k) m) = m) ∧ ∀ c j, ¬ (c = n ∨ (c = b ∧ j = 4)) → M' c j = M c j
theorem t_renumber_loop {k w n : Nat} (hb : isC b k w n) : ∀ (l i : Nat), i + l = 30 → ∀ M1 : Mm, M1 b 4 = cnt (M k) i → (∀ m : Nat, m < i → M k m ≠ -9 → M1 n (cnt (M k) m) = m) → (∀ c j, ¬ (c = n ∨ (c = b ∧ j = 4)) → M1 c j = M c j) → AJ 1 0 0 mH_renumber (fun r S' M' => r = none ∧ S' = S0 N ∧ Rn b k n M M') 0 0 7 [some (.inr b), some (.inl i)] [] (S0 N) M1 := by
  intro l
  induction l with
  | zero =>
    intro i hi M1 e1 e2 e3
    have : i = 30 := by omega
    subst this
    rcases hb with ⟨rfl, rfl, rfl, rfl⟩ | ⟨rfl, rfl, rfl, rfl⟩
    all_goals
      refine aH_renumber [] 40 (fun hM => ?_)
      exact ⟨by decide, rfl, rfl, e1, e2, e3⟩
  | succ l ih =>
    intro i hi M1 e1 e2 e3
    have cr := cnt_rng (M k) i
    have ec : cnt (M k) (i + 1) = cnt (M k) i + (if M k i = -9 then 0 else 1) := rfl
    have ek : M1 k i = M k i := e3 k i (by omega)
    have ih' := ih (i + 1) (by omega)
    rw [show ((i + 1 : Nat) : Int) = (i : Int) + 1 by omega] at ih'
    have skip : M k i = -9 → AJ 1 0 0 mH_renumber (fun r S' M' => r = none ∧ S' = S0 N ∧ Rn b k n M M') 0 0 7 [some (.inr b), some (.inl ((i : Int) + 1))] [] (S0 N) M1 := fun q => by
      rw [if_pos q, Int.add_zero] at ec
      refine ih' M1 (by rw [ec]; exact e1) (fun m hm hne => ?_) e3
      by_cases hmi : m = i
      · subst hmi; exact absurd q hne
      · exact e2 m (by omega) hne
    have take : M k i ≠ -9 → AJ 1 0 0 mH_renumber (fun r S' M' => r = none ∧ S' = S0 N ∧ Rn b k n M M') 0 0 7 [some (.inr b), some (.inl ((i : Int) + 1))] [] (S0 N) (mset (mset M1 n (cnt (M k) i) i) b 4 (cnt (M k) i + 1)) := fun q => by
      rw [if_neg q] at ec
      refine ih' _ (by rw [ec]; exact mset_eq ..) (fun m hm hne => ?_) (fun c j hc => ?_)
      · rw [mset_ne (by omega)]
        by_cases hmi : m = i
        · subst hmi; exact mset_eq ..
        · have hlt := cnt_lt (M k) (show m < i by omega) hne
          rw [mset_ne (by omega)]; exact e2 m (by omega) hne
      · rw [mset_ne (by omega), mset_ne (by omega)]; exact e3 c j hc
    have e4 : (mset M1 n (cnt (M k) i) i) b 4 = cnt (M k) i := by rw [mset_ne (by omega)]; exact e1
    rcases hb with ⟨rfl, rfl, rfl, rfl⟩ | ⟨rfl, rfl, rfl, rfl⟩
    all_goals
      refine aH_renumber [7] 40 (fun hM => ?_)
      refine ⟨by omega, ite_i (fun q => ?_) (fun q => by omega)⟩
      refine CL.pu (t_at (n := 30) rfl (by omega) (by omega) (Nat.le_of_ble_eq_true rfl)) (Nat.le_of_ble_eq_true rfl) ?_
      refine ⟨⟨hM _ _, by decide⟩, ite_i (fun q2 => ?_) (fun q2 => ?_)⟩
      · exact skip (by rw [← ek]; exact q2)
      · refine CL.vo (t_store (n := 30) rfl (by decide) (by omega) (by omega) (Nat.le_of_ble_eq_true rfl) (by omega)) (Nat.le_of_ble_eq_true rfl) (fun hM2 => ?_)
        rw [e1]
        conv => whnf
        rw [e4]
        refine ⟨⟨by omega, trivial⟩, ?_⟩
        exact take (by rw [← ek]; exact q2)
theorem t_renumber {k w n : Nat} (hb : isC b k w n) : Ret 1 0 0 mH_renumber [.inr b] (S0 N) M (fun r S' M' => r = none ∧ S' = S0 N ∧ Rn b k n M M') := by
  have L := t_renumber_loop (N := N) (M := M) hb 30 0 (by omega) (mset M b 4 0) (mset_eq ..) (fun m hm => by omega) (fun c j hc => mset_ne (by omega))
  rcases hb with ⟨rfl, rfl, rfl, rfl⟩ | ⟨rfl, rfl, rfl, rfl⟩
  all_goals
    refine eH_renumber [7] 40 (Nat.le_of_ble_eq_true rfl) (fun hM => ?_)
    exact ⟨⟨by decide, trivial⟩, L⟩
/-- the hand gets a key -/
def Gv (b k w n : Nat) (m key : Int) (M M' : Mm) : Prop := (M k m = key → M' = M) ∧ (M k m ≠ key → Rn b k n (mset (mset M k m key) w m (-9)) M')
theorem t_give {k w n : Nat} {m key : Int} (hb : isC b k w n) (h0 : 0 ≤ m) (h1 : m < 30) (hk : R32 key) : Ret 2 0 0 mH_give [.inr b, .inl m, .inl key] (S0 N) M (fun r S' M' => r = none ∧ S' = S0 N ∧ Gv b k w n m key M M') := by
  have R := t_renumber (N := N) (M := mset (mset M k m key) w m (-9)) hb
  rcases hb with ⟨rfl, rfl, rfl, rfl⟩ | ⟨rfl, rfl, rfl, rfl⟩
  all_goals
    refine eH_give [] 40 (Nat.le_of_ble_eq_true rfl) (fun hM => ?_)
    refine CL.pu (t_keyAt (by omega) h0 h1) (Nat.le_of_ble_eq_true rfl) ?_
    refine ⟨⟨hM _ _, hk⟩, ite_i (fun q => ?_) (fun q => ?_)⟩
    · exact ⟨rfl, rfl, fun _ => rfl, fun z => absurd q z⟩
    · refine CL.vo (t_store (n := 30) rfl (by decide) h0 h1 (Nat.le_of_ble_eq_true rfl) hk) (Nat.le_of_ble_eq_true rfl) (fun hM2 => ?_)
      refine CL.vo (t_store (n := 30) rfl (by decide) h0 h1 (Nat.le_of_ble_eq_true rfl) (by decide)) (Nat.le_of_ble_eq_true rfl) (fun hM3 => ?_)
      refine ⟨1, _, (Nat.le_of_ble_eq_true rfl), R, ?_⟩
      rintro r S' M' ⟨rfl, rfl, hR⟩ hM'
      exact ⟨rfl, rfl, fun z => absurd z q, fun _ => hR⟩
/-- a row filled -/
def flM (c : Nat) (v : Int) (M : Mm) (i : Int) : Mm := fun c' j => if c' = c ∧ 0 ≤ j ∧ j < i then v else M c' j
theorem t_fill {c : Nat} {v : Int} (hs : shp (S0 N) c = some (.inl 30)) (hc : c ≠ 0) (hv : R32 v) : Ret 0 0 0 mJ_fill [.inr c, .inl v] (S0 N) M (Vo (S0 N) (flM c v M 30)) := by
  have loop : ∀ (n i : Nat), i + n = 30 → AJ 0 0 0 mJ_fill (Vo (S0 N) (flM c v M 30)) 0 0 5 [some (.inr c), some (.inl v), some (.inl i), some (.inl 30)] [] (S0 N) (flM c v M i) := by
    intro n
    induction n with
    | zero =>
      intro i hi
      have : i = 30 := by omega
      subst this
      refine aJ_fill [] 30 (fun hM => ?_)
      exact ⟨by decide, vo_eq rfl⟩
    | succ n ih =>
      intro i hi
      have h2 := ih (i + 1) (by omega)
      rw [show ((i + 1 : Nat) : Int) = (i : Int) + 1 by omega] at h2
      have e : mset (flM c v M i) c i v = flM c v M (i + 1) := by
        funext c' j
        unfold mset flM
        by_cases q : c' = c ∧ j = (i : Int)
        · rw [if_pos q, if_pos (by omega)]
        · rw [if_neg q]
          by_cases q2 : c' = c ∧ 0 ≤ j ∧ j < i
          · rw [if_pos q2, if_pos (by omega)]
          · rw [if_neg q2, if_neg (by omega)]
      refine aJ_fill [5] 30 (fun hM => ?_)
      refine ⟨by omega, ite_i (fun q => ?_) (fun q => by omega)⟩
      conv => whnf
      rw [hs]
      refine ⟨⟨hc, by omega, by omega, by omega, hv⟩, ?_⟩
      rw [e]
      exact h2
  refine eJ_fill [5] 30 (Nat.le_of_ble_eq_true rfl) (fun hM => ?_)
  conv => whnf
  rw [hs]
  have h2 := loop 30 0 (by omega)
  have e0 : flM c v M ((0 : Nat) : Int) = M := by funext c' j; unfold flM; rw [if_neg (by omega)]
  rw [e0] at h2
  exact h2
def raM (b k w : Nat) (M : Mm) : Mm := mset (mset (flM w (-9) (flM k (-9) M 30) 30) b 4 0) b 7 0
theorem t_restAlways {k w n : Nat} (hb : isC b k w n) : Ret 1 0 0 mH_restAlways [.inr b] (S0 N) M (Vo (S0 N) (raM b k w M)) := by
  rcases hb with ⟨rfl, rfl, rfl, rfl⟩ | ⟨rfl, rfl, rfl, rfl⟩
  all_goals
    refine eH_restAlways [] 40 (Nat.le_of_ble_eq_true rfl) (fun hM => ?_)
    refine CL.vo (t_fill rfl (by decide) (by decide)) (Nat.le_of_ble_eq_true rfl) (fun hM2 => ?_)
    refine CL.vo (t_fill rfl (by decide) (by decide)) (Nat.le_of_ble_eq_true rfl) (fun hM3 => ?_)
    refine ⟨⟨by decide, trivial⟩, ?_⟩
    refine CL.vo (t_dropTie (by omega)) (Nat.le_of_ble_eq_true rfl) (fun hM4 => ?_)
    exact vo_eq rfl
theorem t_markCount {k w n : Nat} (hb : isC b k w n) : Ret 1 0 0 mH_markCount [.inr b] (S0 N) M (Pu (S0 N) M (ctE (fun j => M w j ≠ -9) 30)) := by
  have loop : ∀ (l i : Nat), i + l = 30 → AJ 1 0 0 mH_markCount (Pu (S0 N) M (ctE (fun j => M w j ≠ -9) 30)) 0 0 4 [some (.inr b), some (.inl (ctE (fun j => M w j ≠ -9) i)), some (.inl i)] [] (S0 N) M := by
    intro l
    induction l with
    | zero =>
      intro i hi
      have : i = 30 := by omega
      subst this
      rcases hb with ⟨rfl, rfl, rfl, rfl⟩ | ⟨rfl, rfl, rfl, rfl⟩
      all_goals
        refine aH_markCount [] 30 (fun hM => ?_)
        exact ⟨by decide, pu_eq rfl⟩
    | succ l ih =>
      intro i hi
      have ar := ctE_rng (E := fun j => M w j ≠ -9) i
      have h2 := ih (i + 1) (by omega)
      rw [show ((i + 1 : Nat) : Int) = (i : Int) + 1 by omega] at h2
      have ea : ctE (fun j => M w j ≠ -9) (i + 1) = ctE (fun j => M w j ≠ -9) i + (if M w i ≠ -9 then 1 else 0) := rfl
      rw [ea] at h2
      rcases hb with ⟨rfl, rfl, rfl, rfl⟩ | ⟨rfl, rfl, rfl, rfl⟩
      all_goals
        refine aH_markCount [4] 40 (fun hM => ?_)
        refine ⟨by omega, ite_i (fun q => ?_) (fun q => by omega)⟩
        refine CL.pu (t_at (n := 30) rfl (by omega) (by omega) (Nat.le_of_ble_eq_true rfl)) (Nat.le_of_ble_eq_true rfl) ?_
        refine ⟨⟨hM _ _, by decide⟩, ite_i (fun q3 => ?_) (fun q3 => ?_)⟩
        · rw [if_neg (fun z => z q3), Int.add_zero] at h2; exact h2
        · rw [if_pos q3] at h2; exact h2
  have L := loop 30 0 (by omega)
  rcases hb with ⟨rfl, rfl, rfl, rfl⟩ | ⟨rfl, rfl, rfl, rfl⟩
  all_goals
    refine eH_markCount [4] 40 (Nat.le_of_ble_eq_true rfl) (fun hM => ?_)
    exact L
end Hd2
