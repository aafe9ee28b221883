/-! ===== the reference: phrases ===== -/
/-- where x is first, of places i .. i + n - 1 -/
def fi (f : Int → Int) (x : Int) : Nat → Int → Int
  | 0, _ => -9
  | n + 1, i => if f i = x then i else fi f x n (i + 1)
theorem fi_rng {f : Int → Int} {x : Int} : ∀ (n : Nat) (i : Int), fi f x n i = -9 ∨ (i ≤ fi f x n i ∧ fi f x n i < i + n) := by
  intro n
  induction n with
  | zero => intro i; exact Or.inl rfl
  | succ n ih =>
    intro i
    unfold fi
    split
    · right; omega
    · have := ih (i + 1); omega
theorem fi_congr {f g : Int → Int} {x : Int} : ∀ (n : Nat) (i : Int), (∀ j, i ≤ j → j < i + n → f j = g j) → fi f x n i = fi g x n i := by
  intro n
  induction n with
  | zero => intro i _; rfl
  | succ n ih =>
    intro i h
    unfold fi
    rw [h i (by omega) (by omega), ih (i + 1) (fun j q1 q2 => h j (by omega) (by omega))]
/-- rows a .. b moved one place down, from place p on, before place q -/
def shd (a b : Nat) (M : Mm) (p q : Int) : Mm := fun c j => if (a ≤ c ∧ c ≤ b) ∧ p ≤ j ∧ j < q then M c (j + 1) else M c j
theorem shd_0 {a b : Nat} {M : Mm} {p : Int} : shd a b M p p = M := by
  funext c j; unfold shd; rw [if_neg (by omega)]
theorem shd_in {a b : Nat} {M : Mm} {p q : Int} {c : Nat} {j : Int} (h : (a ≤ c ∧ c ≤ b) ∧ p ≤ j ∧ j < q) : shd a b M p q c j = M c (j + 1) := by unfold shd; rw [if_pos h]
theorem shd_out {a b : Nat} {M : Mm} {p q : Int} {c : Nat} {j : Int} (h : ¬ ((a ≤ c ∧ c ≤ b) ∧ p ≤ j ∧ j < q)) : shd a b M p q c j = M c j := by unfold shd; rw [if_neg h]
theorem shd_step {a : Nat} {M : Mm} {p q : Int} (h : p ≤ q) : mset (mset (mset (mset (shd a (a + 3) M p q) a q (M a (q + 1))) (a + 1) q (M (a + 1) (q + 1))) (a + 2) q (M (a + 2) (q + 1))) (a + 3) q (M (a + 3) (q + 1)) = shd a (a + 3) M p (q + 1) := by
  funext c j
  by_cases hj : (a ≤ c ∧ c ≤ a + 3) ∧ j = q
  · obtain ⟨hc, rfl⟩ := hj
    rw [shd_in (by omega)]
    have : c = a ∨ c = a + 1 ∨ c = a + 2 ∨ c = a + 3 := by omega
    rcases this with rfl | rfl | rfl | rfl
    · rw [mset_ne (by omega), mset_ne (by omega), mset_ne (by omega), mset_eq]
    · rw [mset_ne (by omega), mset_ne (by omega), mset_eq]
    · rw [mset_ne (by omega), mset_eq]
    · rw [mset_eq]
  · rw [mset_ne (by omega), mset_ne (by omega), mset_ne (by omega), mset_ne (by omega)]
    by_cases hc : (a ≤ c ∧ c ≤ a + 3) ∧ p ≤ j ∧ j < q
    · rw [shd_in hc, shd_in (by omega)]
    · rw [shd_out hc, shd_out (by omega)]
/-- the reference's phrases are phrases -/
def PhI (M : Mm) : Prop := (0 ≤ M 24 25 ∧ M 24 25 ≤ 6) ∧ ∀ p, 0 ≤ p → p < M 24 25 → (0 ≤ M 43 p ∧ M 43 p < 26) ∧ (M 44 p = 0 ∨ M 44 p = 1) ∧ (0 ≤ M 45 p ∧ M 45 p ≤ 28) ∧ 2 ≤ M 46 p ∧ M 46 p ≤ 12
/-- the phrase at place p is gone -/
def gsE (M : Mm) (p : Int) : Mm := mset (shd 43 46 M p (M 24 25 - 1)) 24 25 (M 24 25 - 1)
def phV (M : Mm) (x : Int) : Int := fi (M 43) x (M 24 25).toNat 0
section Ph
variable {N : Nat} {M : Mm} {h : Int}
theorem gs_25 (p : Int) : gsE M p 24 25 = M 24 25 - 1 := mset_eq ..
theorem gs_fr {p : Int} {c : Nat} {j : Int} (hc : ¬ (43 ≤ c ∧ c ≤ 46)) (h2 : ¬ (c = 24 ∧ j = 25)) : gsE M p c j = M c j := by
  unfold gsE; rw [mset_ne (by omega), shd_out (by omega)]
theorem gs_in {p : Int} {c : Nat} {j : Int} (hc : 43 ≤ c ∧ c ≤ 46) : gsE M p c j = if p ≤ j ∧ j < M 24 25 - 1 then M c (j + 1) else M c j := by
  unfold gsE; rw [mset_ne (by omega)]
  by_cases q : p ≤ j ∧ j < M 24 25 - 1
  · rw [if_pos q, shd_in (by omega)]
  · rw [if_neg q, shd_out (by omega)]
theorem PhI.gs (hP : PhI M) {p : Int} (h0 : 0 ≤ p) (h1 : p < M 24 25) : PhI (gsE M p) := by
  obtain ⟨a, b⟩ := hP
  unfold PhI
  rw [gs_25]
  refine ⟨by omega, fun q q1 q2 => ?_⟩
  rw [gs_in (by omega), gs_in (by omega), gs_in (by omega), gs_in (by omega)]
  by_cases hq : p ≤ q ∧ q < M 24 25 - 1
  · rw [if_pos hq, if_pos hq, if_pos hq, if_pos hq]; exact b (q + 1) (by omega) (by omega)
  · rw [if_neg hq, if_neg hq, if_neg hq, if_neg hq]; exact b q (by omega) (by omega)
theorem z_phraseOf {x : Int} (hx : R32 x) (hP : PhI M) : Ret 0 0 0 mM_phraseOf [.inr 24, .inl x] (S0 N) M (Pu (S0 N) M (phV M x)) := by
  obtain ⟨a, b⟩ := hP
  have loop : ∀ (n : Nat) (i : Int), 0 ≤ i → i + n = M 24 25 → AJ 0 0 0 mM_phraseOf (Pu (S0 N) M (fi (M 43) x n i)) 0 0 2 [some (.inr 24), some (.inl x), some (.inl i)] [] (S0 N) M := by
    intro n
    induction n with
    | zero =>
      intro i h0 hi
      refine aM_phraseOf [] 30 (fun hM => ?_)
      exact ⟨by omega, ite_i (fun q => by omega) (fun q => pu_eq rfl)⟩
    | succ n ih =>
      intro i h0 hi
      refine aM_phraseOf [2] 30 (fun hM => ?_)
      refine ⟨by omega, ite_i (fun q => ?_) (fun q => by omega)⟩
      refine ⟨by omega, ⟨hM _ _, hx⟩, ite_i (fun q => ?_) (fun q => ?_)⟩
      · exact pu_eq (by unfold fi; rw [if_pos q])
      · have h2 := ih (i + 1) (by omega) (by omega)
        unfold fi; rw [if_neg q]; exact h2
  refine eM_phraseOf [2] 30 (Nat.le_of_ble_eq_true rfl) (fun hM => ?_)
  exact loop _ 0 (by omega) (by omega)
theorem z_goes {p : Int} (hP : PhI M) (h0 : 0 ≤ p) (h1 : p < M 24 25) : Ret 0 0 0 mM_goes [.inr 24, .inl p] (S0 N) M (Vo (S0 N) (gsE M p)) := by
  obtain ⟨a, b⟩ := hP
  have loop : ∀ (n : Nat) (i : Int), p ≤ i → i + n = M 24 25 - 1 → AJ 0 0 0 mM_goes (Vo (S0 N) (gsE M p)) 0 0 2 [some (.inr 24), some (.inl p), some (.inl i)] [] (S0 N) (shd 43 46 M p i) := by
    intro n
    induction n with
    | zero =>
      intro i h2 hi
      have e : shd 43 46 M p i 24 25 = M 24 25 := shd_out (by omega)
      refine aM_goes [] 40 (fun hM => ?_)
      refine ⟨by omega, ite_i (fun q => by omega) (fun q => ?_)⟩
      refine ⟨⟨by omega, trivial⟩, vo_eq ?_⟩
      have : i = M 24 25 - 1 := by omega
      rw [e, this]; rfl
    | succ n ih =>
      intro i h2 hi
      have e : shd 43 46 M p i 24 25 = M 24 25 := shd_out (by omega)
      have h3 := ih (i + 1) (by omega) (by omega)
      have e3 : shd 43 46 M p i 43 (i + 1) = M 43 (i + 1) := shd_out (by omega)
      have e4 : shd 43 46 M p i 44 (i + 1) = M 44 (i + 1) := shd_out (by omega)
      have e5 : shd 43 46 M p i 45 (i + 1) = M 45 (i + 1) := shd_out (by omega)
      have e6 : shd 43 46 M p i 46 (i + 1) = M 46 (i + 1) := shd_out (by omega)
      refine aM_goes [2] 60 (fun hM => ?_)
      refine ⟨by omega, ite_i (fun q => ?_) (fun q => by omega)⟩
      refine ⟨by omega, ⟨by decide, by omega, by omega, by omega, hM _ _⟩, ?_⟩
      rw [e3]
      refine ⟨by omega, ⟨by decide, by omega, by omega, by omega, by rw [mset_ne (by omega)]; exact hM _ _⟩, ?_⟩
      rw [mset_ne (by omega), e4]
      refine ⟨by omega, ⟨by decide, by omega, by omega, by omega, by rw [mset_ne (by omega), mset_ne (by omega)]; exact hM _ _⟩, ?_⟩
      rw [mset_ne (by omega), mset_ne (by omega), e5]
      refine ⟨by omega, ⟨by decide, by omega, by omega, by omega, by rw [mset_ne (by omega), mset_ne (by omega), mset_ne (by omega)]; exact hM _ _⟩, ?_⟩
      rw [mset_ne (by omega), mset_ne (by omega), mset_ne (by omega), e6]
      have st := shd_step (a := 43) (M := M) h2
      rw [st]
      exact h3
  refine eM_goes [2] 30 (Nat.le_of_ble_eq_true rfl) (fun hM => ?_)
  have h2 := loop (M 24 25 - 1 - p).toNat p (by omega) (by omega)
  rw [shd_0] at h2
  exact h2
theorem phV_rng (hP : PhI M) (x : Int) : phV M x = -9 ∨ (0 ≤ phV M x ∧ phV M x < M 24 25) := by
  have := fi_rng (f := M 43) (x := x) (M 24 25).toNat 0
  have a := hP.1
  unfold phV
  omega
def forgetV (M : Mm) (x : Int) : Int := if phV M x = -9 then -1 else M 24 25 - 1
theorem z_forget {x : Int} (hx : R32 x) (hP : PhI M) : Ret 2 0 0 mM_forget [.inr 24, .inl x] (S0 N) M (Pv (S0 N) (if phV M x = -9 then M else gsE M (phV M x)) (forgetV M x)) := by
  have pr := phV_rng hP x
  have a := hP.1
  refine eM_forget [] 30 (Nat.le_of_ble_eq_true rfl) (fun hM => ?_)
  refine CL.pu (z_phraseOf hx hP) (Nat.le_of_ble_eq_true rfl) ?_
  refine ⟨by omega, ite_i (fun q => ?_) (fun q => ?_)⟩
  · exact pv_eq (by unfold forgetV; rw [if_pos q]) (by rw [if_pos q])
  · refine CL.vo (z_goes hP (by omega) (by omega)) (Nat.le_of_ble_eq_true rfl) (fun hM2 => ?_)
    exact pv_eq (by unfold forgetV; rw [if_neg q, gs_25]) (by rw [if_neg q])
def nameV (M : Mm) (k : Int) : Int := if 0 ≤ k ∧ k ≤ 5 then (if k < M 24 25 then M 43 k else -9) else -2
theorem z_name {k : Int} (hx : R32 k) : Ret 2 0 0 mM_name [.inr 24, .inl k] (S0 N) M (Pu (S0 N) M (nameV M k)) := by
  refine eM_name [] 30 (Nat.le_of_ble_eq_true rfl) (fun hM => ?_)
  refine CL.bl (z_within hx R32_0 (by decide)) (Nat.le_of_ble_eq_true rfl) (fun q => ?_) (fun q => ?_)
  · refine ⟨R32_1, ⟨hx, hM _ _⟩, ite_i (fun q2 => ?_) (fun q2 => ?_)⟩
    · exact ⟨by omega, pu_eq (by unfold nameV; rw [if_pos q, if_pos q2])⟩
    · exact pu_eq (by unfold nameV; rw [if_pos q, if_neg q2])
  · exact ⟨R32_0, pu_eq (by unfold nameV; rw [if_neg q])⟩
end Ph
