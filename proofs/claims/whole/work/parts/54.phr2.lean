/-! ===== the class: a phrase comes, long ones go ===== -/
/-- long phrases of hand h go, of the first p -/
def prC (h n : Int) : Nat → Mm → Mm
  | 0, M => M
  | p + 1, M => prC h n p (if M 21 p = h ∧ n < M 22 p + M 23 p then gsC M p else M)
section Pc2
variable {N : Nat} {A M : Mm}
theorem t_come_tail {x h i n : Int} (hx : R32 x) (hh : R32 h) (hi : R32 i) (hn : R32 n) (c0 : 0 ≤ M 19 4) (c5 : M 19 4 ≤ 5) (L5 : Option Vl) : AJ 2 0 0 mP_come (Vo (S0 N) (pcA M x h i n)) 0 0 37 [some (.inr 19), some (.inl x), some (.inl h), some (.inl i), some (.inl n), L5] [] (S0 N) M := by
  have e1 : ∀ v, (mset M 20 (M 19 4) v) 19 4 = M 19 4 := fun v => mset_ne (by omega)
  have e2 : ∀ v w, (mset (mset M 20 (M 19 4) v) 21 (M 19 4) w) 19 4 = M 19 4 := fun v w => by rw [mset_ne (by omega), e1]
  have e3 : ∀ v w u, (mset (mset (mset M 20 (M 19 4) v) 21 (M 19 4) w) 22 (M 19 4) u) 19 4 = M 19 4 := fun v w u => by rw [mset_ne (by omega), e2]
  have e4 : ∀ v w u t, (mset (mset (mset (mset M 20 (M 19 4) v) 21 (M 19 4) w) 22 (M 19 4) u) 23 (M 19 4) t) 19 4 = M 19 4 := fun v w u t => by rw [mset_ne (by omega), e3]
  refine aP_come [] 60 (fun hM => ?_)
  refine CL.vo (t_store (n := 6) rfl (by decide) (by omega) (by omega) (Nat.le_of_ble_eq_true rfl) hx) (Nat.le_of_ble_eq_true rfl) (fun hM2 => ?_)
  conv => whnf
  rw [e1]
  refine CL.vo (t_store (n := 6) rfl (by decide) (by omega) (by omega) (Nat.le_of_ble_eq_true rfl) hh) (Nat.le_of_ble_eq_true rfl) (fun hM2 => ?_)
  conv => whnf
  rw [e2]
  refine CL.vo (t_store (n := 6) rfl (by decide) (by omega) (by omega) (Nat.le_of_ble_eq_true rfl) hi) (Nat.le_of_ble_eq_true rfl) (fun hM2 => ?_)
  conv => whnf
  rw [e3]
  refine CL.vo (t_store (n := 6) rfl (by decide) (by omega) (by omega) (Nat.le_of_ble_eq_true rfl) hn) (Nat.le_of_ble_eq_true rfl) (fun hM2 => ?_)
  conv => whnf
  rw [e4]
  exact ⟨⟨by omega, trivial⟩, vo_eq rfl⟩
theorem t_come {x h i n : Int} (hx : R32 x) (hh : R32 h) (hi : R32 i) (hn : R32 n) (hq : PQ A M) (hP : PhI A) : Ret 2 0 0 mP_come [.inr 19, .inl x, .inl h, .inl i, .inl n] (S0 N) M (Vo (S0 N) (pcA (pc1 M x) x h i n)) := by
  have a := hP.1
  have c := hq.1
  have pr := phV_rng hP x
  rw [← hq.ph] at pr
  have q1 := hq.p1 hP x
  have P2 := (hP.p1 x).p2
  have c1 := q1.1
  have p2a := P2.1.1
  have T := fun L5 => t_come_tail (N := N) (M := pc1 M x) hx hh hi hn (by omega) (by omega) L5
  refine eP_come [37] 40 (Nat.le_of_ble_eq_true rfl) (fun hM => ?_)
  refine CL.pu (t_placeOf hx (by omega) (by omega)) (Nat.le_of_ble_eq_true rfl) ?_
  refine ⟨by omega, ite_i (fun q => ?_) (fun q => ?_)⟩
  · refine ⟨by omega, ite_i (fun q6 => ?_) (fun q6 => ?_)⟩
    · refine CL.vo (t_drop (by omega) (by omega) (by omega)) (Nat.le_of_ble_eq_true rfl) (fun hM2 => ?_)
      have e : gsC M 0 = pc1 M x := by unfold pc1; rw [if_neg (fun z => z q), if_pos q6]
      rw [e]
      exact T _
    · have e : M = pc1 M x := by unfold pc1; rw [if_neg (fun z => z q), if_neg q6]
      have T' := T (some (.inl (phC M x)))
      rw [← e] at T'
      exact e ▸ T _
  · refine CL.vo (t_drop (by omega) (by omega) (by omega)) (Nat.le_of_ble_eq_true rfl) (fun hM2 => ?_)
    have e : gsC M (phC M x) = pc1 M x := by unfold pc1; rw [if_pos q]
    rw [e]
    exact T _
theorem PQ.pr {h n : Int} : ∀ (p : Nat) (A M : Mm), PQ A M → (p : Int) ≤ A 24 25 → PQ (prE h n p A) (prC h n p M) := by
  intro p
  induction p with
  | zero => intro A M hq _; exact hq
  | succ p ih =>
    intro A M hq hp
    have b := hq.2 p (by omega) (by omega)
    unfold prE prC
    rw [b.2.1, b.2.2.1, b.2.2.2]
    by_cases c : A 44 p = h ∧ n < A 45 p + A 46 p
    · rw [if_pos c, if_pos c]; exact ih _ _ (hq.gs (by omega)) (by rw [gs_25]; omega)
    · rw [if_neg c, if_neg c]; exact ih _ _ hq (by omega)
theorem t_dropLonger {h n : Int} (hh : isH h) (hn : 0 ≤ n ∧ n ≤ 30) (hq : PQ A M) (hP : PhI A) : Ret 2 0 0 mP_dropLonger [.inr 19, .inl h, .inl n] (S0 N) M (Pv (S0 N) (prC h n (M 19 4).toNat M) (M 19 4 - prC h n (M 19 4).toNat M 19 4)) := by
  have a := hP.1
  have c := hq.1
  have loop : ∀ (p : Nat) (d : Int) (A1 M1 : Mm), PQ A1 M1 → PhI A1 → (p : Int) ≤ A1 24 25 → d + A1 24 25 = M 19 4 → prC h n p M1 = prC h n (M 19 4).toNat M → AJ 2 0 0 mP_dropLonger (Pv (S0 N) (prC h n (M 19 4).toNat M) (M 19 4 - prC h n (M 19 4).toNat M 19 4)) 0 0 10 [some (.inr 19), some (.inl h), some (.inl n), some (.inl d), some (.inl ((p : Int) - 1))] [] (S0 N) M1 := by
    intro p
    induction p with
    | zero =>
      intro d A1 M1 Q1 P1 h1 hd e
      have e' : M1 = prC h n (M 19 4).toNat M := e
      have c1 := Q1.1
      refine aP_dropLonger [] 40 (fun hM => ?_)
      refine ⟨by decide, pv_eq ?_ e'⟩
      rw [← e']; omega
    | succ p ih =>
      intro d A1 M1 Q1 P1 h1 hd e
      have a1 := P1.1
      have c1 := Q1.1
      have b1 := P1.2 p (by omega) (by omega)
      have q1 := Q1.2 p (by omega) (by omega)
      have es : (((p + 1 : Nat) : Int) - 1) = p := by omega
      rw [es]
      have e : prC h n p (if M1 21 p = h ∧ n < M1 22 p + M1 23 p then gsC M1 p else M1) = prC h n (M 19 4).toNat M := e
      obtain ⟨pi, hp⟩ : ∃ pi : Int, pi = p := ⟨_, rfl⟩
      rw [← hp] at e b1 q1 ⊢
      refine aP_dropLonger [10] 40 (fun hM => ?_)
      refine ⟨by omega, ite_i (fun q => by omega) (fun q2 => ?_)⟩
      refine CL.pu (t_at (n := 6) rfl (by omega) (by omega) (Nat.le_of_ble_eq_true rfl)) (Nat.le_of_ble_eq_true rfl) ?_
      refine ⟨⟨hM _ _, by omega⟩, ite_i (fun q3 => ?_) (fun q3 => ?_)⟩
      · refine CL.pu (t_at (n := 6) rfl (by omega) (by omega) (Nat.le_of_ble_eq_true rfl)) (Nat.le_of_ble_eq_true rfl) ?_
        refine CL.pu (t_at (n := 6) rfl (by omega) (by omega) (Nat.le_of_ble_eq_true rfl)) (Nat.le_of_ble_eq_true rfl) ?_
        refine ⟨⟨by omega, by omega⟩, ite_i (fun q4 => ?_) (fun q4 => ?_)⟩
        · refine CL.vo (t_drop (by omega) (by omega) (by omega)) (Nat.le_of_ble_eq_true rfl) (fun hM2 => ?_)
          rw [if_pos ⟨q3, q4⟩] at e
          have ih' := ih (d + 1) _ _ (Q1.gs (p := pi) (by omega)) (P1.gs (p := pi) (by omega) (by omega)) (by rw [gs_25]; omega) (by rw [gs_25]; omega) e
          rw [← hp] at ih'
          exact ih'
        · rw [if_neg (fun z => q4 z.2)] at e
          have ih' := ih d _ _ Q1 P1 (by omega) hd e
          rw [← hp] at ih'
          exact ih'
      · rw [if_neg (fun z => q3 z.1)] at e
        have ih' := ih d _ _ Q1 P1 (by omega) hd e
        rw [← hp] at ih'
        exact ih'
  refine eP_dropLonger [10] 30 (Nat.le_of_ble_eq_true rfl) (fun hM => ?_)
  have h2 := loop (M 19 4).toNat 0 A M hq hP (by omega) (by omega) rfl
  rw [show (((M 19 4).toNat : Int)) = M 19 4 by omega] at h2
  exact h2
end Pc2
