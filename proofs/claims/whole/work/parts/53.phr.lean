/-! ===== the class: phrases (cells 19 to 23) ===== -/
/-- the class's phrases in B are the reference's in A -/
def PQ (A B : Mm) : Prop := B 19 4 = A 24 25 ∧ ∀ p, 0 ≤ p → p < A 24 25 → B 20 p = A 43 p ∧ B 21 p = A 44 p ∧ B 22 p = A 45 p ∧ B 23 p = A 46 p
def gsC (M : Mm) (p : Int) : Mm := mset (shd 20 23 M p (M 19 4 - 1)) 19 4 (M 19 4 - 1)
def phC (M : Mm) (x : Int) : Int := fi (M 20) x (M 19 4).toNat 0
section Pc
variable {N : Nat} {A M : Mm}
theorem gc_4 (p : Int) : gsC M p 19 4 = M 19 4 - 1 := mset_eq ..
theorem gc_fr {p : Int} {c : Nat} {j : Int} (hc : ¬ (20 ≤ c ∧ c ≤ 23)) (h2 : ¬ (c = 19 ∧ j = 4)) : gsC M p c j = M c j := by
  unfold gsC; rw [mset_ne (by omega), shd_out (by omega)]
theorem gc_in {p : Int} {c : Nat} {j : Int} (hc : 20 ≤ c ∧ c ≤ 23) : gsC M p c j = if p ≤ j ∧ j < M 19 4 - 1 then M c (j + 1) else M c j := by
  unfold gsC; rw [mset_ne (by omega)]
  by_cases q : p ≤ j ∧ j < M 19 4 - 1
  · rw [if_pos q, shd_in (by omega)]
  · rw [if_neg q, shd_out (by omega)]
theorem PQ.gs (h : PQ A M) {p : Int} (h0 : 0 ≤ p) : PQ (gsE A p) (gsC M p) := by
  obtain ⟨a, b⟩ := h
  unfold PQ
  rw [gs_25, gc_4, a]
  refine ⟨rfl, fun q q1 q2 => ?_⟩
  rw [gs_in (by omega), gs_in (by omega), gs_in (by omega), gs_in (by omega), gc_in (by omega), gc_in (by omega), gc_in (by omega), gc_in (by omega), a]
  by_cases hq : p ≤ q ∧ q < A 24 25 - 1
  · rw [if_pos hq, if_pos hq, if_pos hq, if_pos hq, if_pos hq, if_pos hq, if_pos hq, if_pos hq]; exact b (q + 1) (by omega) (by omega)
  · rw [if_neg hq, if_neg hq, if_neg hq, if_neg hq, if_neg hq, if_neg hq, if_neg hq, if_neg hq]; exact b q (by omega) (by omega)
theorem PQ.ph (h : PQ A M) (x : Int) : phC M x = phV A x := by
  unfold phC phV
  rw [h.1]
  exact fi_congr _ _ (fun j q1 q2 => (h.2 j q1 (by omega)).1)
theorem PQ.fr {B : Mm} (h : PQ A M) (hf : ∀ c j, 19 ≤ c → c ≤ 23 → B c j = M c j) : PQ A B := by
  unfold PQ
  rw [hf 19 4 (by omega) (by omega)]
  refine ⟨h.1, fun p q1 q2 => ?_⟩
  rw [hf 20 p (by omega) (by omega), hf 21 p (by omega) (by omega), hf 22 p (by omega) (by omega), hf 23 p (by omega) (by omega)]
  exact h.2 p q1 q2
theorem PQ.fl {B : Mm} (h : PQ A M) (h25 : B 24 25 = A 24 25) (hf : ∀ c j, 43 ≤ c → c ≤ 46 → B c j = A c j) : PQ B M := by
  unfold PQ
  rw [h25]
  refine ⟨h.1, fun p q1 q2 => ?_⟩
  rw [hf 43 p (by omega) (by omega), hf 44 p (by omega) (by omega), hf 45 p (by omega) (by omega), hf 46 p (by omega) (by omega)]
  exact h.2 p q1 q2
theorem t_size : Ret 0 0 0 mP_size [.inr 19] (S0 N) M (Pu (S0 N) M (M 19 4)) := by
  refine eP_size [] 20 (Nat.le_of_ble_eq_true rfl) (fun hM => ?_)
  exact pu_eq rfl
theorem t_handAt {p : Int} (h0 : 0 ≤ p) (h1 : p < 6) : Ret 1 0 0 mP_handAt [.inr 19, .inl p] (S0 N) M (Pu (S0 N) M (M 21 p)) := by
  refine eP_handAt [] 20 (Nat.le_of_ble_eq_true rfl) (fun hM => ?_)
  refine CL.pu (t_at (n := 6) rfl h0 h1 (Nat.le_of_ble_eq_true rfl)) (Nat.le_of_ble_eq_true rfl) ?_
  exact pu_eq rfl
theorem t_startAt {p : Int} (h0 : 0 ≤ p) (h1 : p < 6) : Ret 1 0 0 mP_startAt [.inr 19, .inl p] (S0 N) M (Pu (S0 N) M (M 22 p)) := by
  refine eP_startAt [] 20 (Nat.le_of_ble_eq_true rfl) (fun hM => ?_)
  refine CL.pu (t_at (n := 6) rfl h0 h1 (Nat.le_of_ble_eq_true rfl)) (Nat.le_of_ble_eq_true rfl) ?_
  exact pu_eq rfl
theorem t_lengthAt {p : Int} (h0 : 0 ≤ p) (h1 : p < 6) : Ret 1 0 0 mP_lengthAt [.inr 19, .inl p] (S0 N) M (Pu (S0 N) M (M 23 p)) := by
  refine eP_lengthAt [] 20 (Nat.le_of_ble_eq_true rfl) (fun hM => ?_)
  refine CL.pu (t_at (n := 6) rfl h0 h1 (Nat.le_of_ble_eq_true rfl)) (Nat.le_of_ble_eq_true rfl) ?_
  exact pu_eq rfl
theorem t_nameAt {p : Int} (h0 : 0 ≤ p) (h1 : p < 6) : Ret 1 0 0 mP_nameAt [.inr 19, .inl p] (S0 N) M (Pu (S0 N) M (if p < M 19 4 then M 20 p else -9)) := by
  refine eP_nameAt [] 20 (Nat.le_of_ble_eq_true rfl) (fun hM => ?_)
  refine ⟨⟨by omega, hM _ _⟩, ite_i (fun q => ?_) (fun q => ?_)⟩
  · refine CL.pu (t_at (n := 6) rfl h0 h1 (Nat.le_of_ble_eq_true rfl)) (Nat.le_of_ble_eq_true rfl) ?_
    exact pu_eq (by rw [if_pos q])
  · exact pu_eq (by rw [if_neg q])
theorem t_placeOf {x : Int} (hx : R32 x) (h0 : 0 ≤ M 19 4) (h6 : M 19 4 ≤ 6) : Ret 1 0 0 mP_placeOf [.inr 19, .inl x] (S0 N) M (Pu (S0 N) M (phC M x)) := by
  have loop : ∀ (n : Nat) (i : Int), 0 ≤ i → i + n = M 19 4 → AJ 1 0 0 mP_placeOf (Pu (S0 N) M (fi (M 20) x n i)) 0 0 2 [some (.inr 19), some (.inl x), some (.inl i)] [] (S0 N) M := by
    intro n
    induction n with
    | zero =>
      intro i h0 hi
      refine aP_placeOf [] 30 (fun hM => ?_)
      exact ⟨by omega, ite_i (fun q => by omega) (fun q => pu_eq rfl)⟩
    | succ n ih =>
      intro i h0 hi
      refine aP_placeOf [2] 30 (fun hM => ?_)
      refine ⟨by omega, ite_i (fun q => ?_) (fun q => by omega)⟩
      refine CL.pu (t_at (n := 6) rfl (by omega) (by omega) (Nat.le_of_ble_eq_true rfl)) (Nat.le_of_ble_eq_true rfl) ?_
      refine ⟨⟨hM _ _, hx⟩, ite_i (fun q => ?_) (fun q => ?_)⟩
      · exact pu_eq (by unfold fi; rw [if_pos q])
      · have h2 := ih (i + 1) (by omega) (by omega)
        unfold fi; rw [if_neg q]; exact h2
  refine eP_placeOf [2] 30 (Nat.le_of_ble_eq_true rfl) (fun hM => ?_)
  exact loop _ 0 (by omega) (by omega)
theorem t_drop {p : Int} (h6 : M 19 4 ≤ 6) (h0 : 0 ≤ p) (h1 : p < M 19 4) : Ret 1 0 0 mP_drop [.inr 19, .inl p] (S0 N) M (Vo (S0 N) (gsC M p)) := by
  have loop : ∀ (n : Nat) (i : Int), p ≤ i → i + n = M 19 4 - 1 → AJ 1 0 0 mP_drop (Vo (S0 N) (gsC M p)) 0 0 2 [some (.inr 19), some (.inl p), some (.inl i)] [] (S0 N) (shd 20 23 M p i) := by
    intro n
    induction n with
    | zero =>
      intro i h2 hi
      have e : shd 20 23 M p i 19 4 = M 19 4 := shd_out (by omega)
      refine aP_drop [] 40 (fun hM => ?_)
      refine ⟨by omega, ite_i (fun q => by omega) (fun q => ?_)⟩
      refine ⟨⟨by omega, trivial⟩, vo_eq ?_⟩
      have : i = M 19 4 - 1 := by omega
      rw [e, this]; rfl
    | succ n ih =>
      intro i h2 hi
      have e : shd 20 23 M p i 19 4 = M 19 4 := shd_out (by omega)
      have h3 := ih (i + 1) (by omega) (by omega)
      have e3 : shd 20 23 M p i 20 (i + 1) = M 20 (i + 1) := shd_out (by omega)
      have e4 : shd 20 23 M p i 21 (i + 1) = M 21 (i + 1) := shd_out (by omega)
      have e5 : shd 20 23 M p i 22 (i + 1) = M 22 (i + 1) := shd_out (by omega)
      have e6 : shd 20 23 M p i 23 (i + 1) = M 23 (i + 1) := shd_out (by omega)
      refine aP_drop [2] 60 (fun hM => ?_)
      refine ⟨by omega, ite_i (fun q => ?_) (fun q => by omega)⟩
      refine CL.pu (t_at (n := 6) rfl (by omega) (by omega) (Nat.le_of_ble_eq_true rfl)) (Nat.le_of_ble_eq_true rfl) ?_
      rw [e3]
      refine CL.vo (t_store (n := 6) rfl (by decide) (by omega) (by omega) (Nat.le_of_ble_eq_true rfl) (by rw [← e3]; exact hM _ _)) (Nat.le_of_ble_eq_true rfl) (fun hM2 => ?_)
      refine CL.pu (t_at (n := 6) rfl (by omega) (by omega) (Nat.le_of_ble_eq_true rfl)) (Nat.le_of_ble_eq_true rfl) ?_
      rw [mset_ne (by omega), e4]
      refine CL.vo (t_store (n := 6) rfl (by decide) (by omega) (by omega) (Nat.le_of_ble_eq_true rfl) (by rw [← e4]; exact hM _ _)) (Nat.le_of_ble_eq_true rfl) (fun hM2 => ?_)
      refine CL.pu (t_at (n := 6) rfl (by omega) (by omega) (Nat.le_of_ble_eq_true rfl)) (Nat.le_of_ble_eq_true rfl) ?_
      rw [mset_ne (by omega), mset_ne (by omega), e5]
      refine CL.vo (t_store (n := 6) rfl (by decide) (by omega) (by omega) (Nat.le_of_ble_eq_true rfl) (by rw [← e5]; exact hM _ _)) (Nat.le_of_ble_eq_true rfl) (fun hM2 => ?_)
      refine CL.pu (t_at (n := 6) rfl (by omega) (by omega) (Nat.le_of_ble_eq_true rfl)) (Nat.le_of_ble_eq_true rfl) ?_
      rw [mset_ne (by omega), mset_ne (by omega), mset_ne (by omega), e6]
      refine CL.vo (t_store (n := 6) rfl (by decide) (by omega) (by omega) (Nat.le_of_ble_eq_true rfl) (by rw [← e6]; exact hM _ _)) (Nat.le_of_ble_eq_true rfl) (fun hM2 => ?_)
      have st := shd_step (a := 20) (M := M) h2
      rw [st]
      exact h3
  refine eP_drop [2] 30 (Nat.le_of_ble_eq_true rfl) (fun hM => ?_)
  have h2 := loop (M 19 4 - 1 - p).toNat p (by omega) (by omega)
  rw [shd_0] at h2
  exact h2
/-- room for one more, one more -/
def pc1 (M : Mm) (x : Int) : Mm := if phC M x ≠ -9 then gsC M (phC M x) else if M 19 4 = 6 then gsC M 0 else M
def pcA (M : Mm) (x h i n : Int) : Mm := mset (mset (mset (mset (mset M 20 (M 19 4) x) 21 (M 19 4) h) 22 (M 19 4) i) 23 (M 19 4) n) 19 4 (M 19 4 + 1)
theorem PQ.p1 (h : PQ A M) (hP : PhI A) (x : Int) : PQ (ph2 (ph1 A x)) (pc1 M x) := by
  have pr := phV_rng hP x
  have a := hP.1
  unfold pc1 ph1
  rw [h.ph]
  by_cases q : phV A x = -9
  · rw [if_pos q, if_neg (fun z => z q)]
    unfold ph2
    rw [h.1]
    by_cases q6 : A 24 25 = 6
    · rw [if_pos q6, if_pos q6]; exact h.gs (by omega)
    · rw [if_neg q6, if_neg q6]; exact h
  · rw [if_neg q, if_pos q]
    unfold ph2
    rw [gs_25, if_neg (by omega)]
    exact h.gs (by omega)
theorem PQ.pA (h : PQ A M) (x hd i n : Int) : PQ (phA A x hd i n) (pcA M x hd i n) := by
  obtain ⟨a, b⟩ := h
  have e1 : phA A x hd i n 24 25 = A 24 25 + 1 := mset_eq ..
  have e2 : pcA M x hd i n 19 4 = M 19 4 + 1 := mset_eq ..
  unfold PQ
  rw [e1, e2, a]
  refine ⟨rfl, fun p p0 p1 => ?_⟩
  unfold pcA phA
  rw [a]
  by_cases q : p = A 24 25
  · subst q
    refine ⟨?_, ?_, ?_, ?_⟩
    · rw [mset_ne (by omega), mset_ne (by omega), mset_ne (by omega), mset_ne (by omega), mset_eq, mset_ne (by omega), mset_ne (by omega), mset_ne (by omega), mset_ne (by omega), mset_eq]
    · rw [mset_ne (by omega), mset_ne (by omega), mset_ne (by omega), mset_eq, mset_ne (by omega), mset_ne (by omega), mset_ne (by omega), mset_eq]
    · rw [mset_ne (by omega), mset_ne (by omega), mset_eq, mset_ne (by omega), mset_ne (by omega), mset_eq]
    · rw [mset_ne (by omega), mset_eq, mset_ne (by omega), mset_eq]
  · have f1 : ∀ c, 20 ≤ c → c ≤ 23 → (mset (mset (mset (mset (mset M 20 (A 24 25) x) 21 (A 24 25) hd) 22 (A 24 25) i) 23 (A 24 25) n) 19 4 (A 24 25 + 1)) c p = M c p := fun c c0 c1 => by
      rw [mset_ne (by omega), mset_ne (by omega), mset_ne (by omega), mset_ne (by omega), mset_ne (by omega)]
    have f2 : ∀ c, 43 ≤ c → c ≤ 46 → (mset (mset (mset (mset (mset A 43 (A 24 25) x) 44 (A 24 25) hd) 45 (A 24 25) i) 46 (A 24 25) n) 24 25 (A 24 25 + 1)) c p = A c p := fun c c0 c1 => by
      rw [mset_ne (by omega), mset_ne (by omega), mset_ne (by omega), mset_ne (by omega), mset_ne (by omega)]
    rw [f1 20 (by omega) (by omega), f1 21 (by omega) (by omega), f1 22 (by omega) (by omega), f1 23 (by omega) (by omega), f2 43 (by omega) (by omega), f2 44 (by omega) (by omega), f2 45 (by omega) (by omega), f2 46 (by omega) (by omega)]
    exact b p p0 (by omega)
end Pc
