/-! ===== the reference: echoes ===== -/
/-- notes j .. are notes i .. moved -/
abbrev ecP (K : Int → Int) (L i n j : Int) : Prop := i + n ≤ L ∧ j + n ≤ L ∧ ∀ k : Nat, k < n.toNat → K (j + k) - K (i + k) = K j - K i
theorem ecP_congr {K K' : Int → Int} {L i n j : Int} (hi : 0 ≤ i) (hj : 0 ≤ j) (hn : 0 < n) (h : ∀ k, 0 ≤ k → k < L → K k = K' k) : ecP K L i n j ↔ ecP K' L i n j := by
  constructor
  · rintro ⟨a, b, c⟩
    refine ⟨a, b, fun k hk => ?_⟩
    rw [← h (j + k) (by omega) (by omega), ← h (i + k) (by omega) (by omega), ← h j hj (by omega), ← h i hi (by omega)]; exact c k hk
  · rintro ⟨a, b, c⟩
    refine ⟨a, b, fun k hk => ?_⟩
    rw [h (j + k) (by omega) (by omega), h (i + k) (by omega) (by omega), h j hj (by omega), h i hi (by omega)]; exact c k hk
/-- the k-th of places j .. j + n - 1 where E holds -/
def eaV (E : Int → Prop) [DecidablePred E] : Nat → Int → Int → Int
  | 0, _, _ => -9
  | n + 1, j, k => if E j then (if k = 0 then j else eaV E n (j + 1) (k - 1)) else eaV E n (j + 1) k
theorem eaV_congr {E F : Int → Prop} [DecidablePred E] [DecidablePred F] : ∀ (n : Nat) (j k : Int), (∀ i, j ≤ i → i < j + n → (E i ↔ F i)) → eaV E n j k = eaV F n j k := by
  intro n
  induction n with
  | zero => intro j k _; rfl
  | succ n ih =>
    intro j k h
    have h0 := h j (by omega) (by omega)
    unfold eaV
    rw [ih (j + 1) (k - 1) (fun i q1 q2 => h i (by omega) (by omega)), ih (j + 1) k (fun i q1 q2 => h i (by omega) (by omega))]
    by_cases hE : E j
    · rw [if_pos hE, if_pos (h0.mp hE)]
    · rw [if_neg hE, if_neg (fun z => hE (h0.mpr z))]
theorem eaV_rng {E : Int → Prop} [DecidablePred E] : ∀ (n : Nat) (j k : Int), eaV E n j k = -9 ∨ (j ≤ eaV E n j k ∧ eaV E n j k < j + n ∧ E (eaV E n j k)) := by
  intro n
  induction n with
  | zero => intro j k; exact Or.inl rfl
  | succ n ih =>
    intro j k
    unfold eaV
    split
    · rename_i hE
      split
      · right; exact ⟨by omega, by omega, hE⟩
      · have := ih (j + 1) (k - 1)
        rcases this with q | ⟨q1, q2, q3⟩
        · exact Or.inl q
        · right; exact ⟨by omega, by omega, q3⟩
    · have := ih (j + 1) k
      rcases this with q | ⟨q1, q2, q3⟩
      · exact Or.inl q
      · right; exact ⟨by omega, by omega, q3⟩
theorem eaV_no {E : Int → Prop} [DecidablePred E] : ∀ (n : Nat) (j k : Int), (∀ i, j ≤ i → i < j + n → ¬ E i) → eaV E n j k = -9 := by
  intro n
  induction n with
  | zero => intro j k _; rfl
  | succ n ih =>
    intro j k h
    unfold eaV
    rw [if_neg (h j (by omega) (by omega))]
    exact ih _ _ (fun i q1 q2 => h i (by omega) (by omega))
/-- how many of n notes are alike black or white -/
def alk (K : Int → Int) (i j : Int) : Nat → Int
  | 0 => 0
  | n + 1 => alk K i j n + (if (blk (K (j + n)) ↔ blk (K (i + n))) then 1 else 0)
theorem alk_rng {K : Int → Int} {i j : Int} : ∀ n : Nat, 0 ≤ alk K i j n ∧ alk K i j n ≤ n := by
  intro n
  induction n with
  | zero => exact ⟨Int.le_refl _, Int.le_refl _⟩
  | succ n ih => unfold alk; split <;> omega
theorem alk_congr {K K' : Int → Int} {i j : Int} : ∀ n : Nat, (∀ k : Nat, k < n → K (j + k) = K' (j + k) ∧ K (i + k) = K' (i + k)) → alk K i j n = alk K' i j n := by
  intro n
  induction n with
  | zero => intro _; rfl
  | succ n ih =>
    intro h
    have h0 := h n (by omega)
    unfold alk
    rw [h0.1, h0.2, ih (fun k q => h k (by omega))]
section Ec
variable {N : Nat} {M : Mm} {p : Int}
/-- the keys laid out -/
def KOk (M : Mm) : Prop := 0 ≤ M 24 7 ∧ M 24 7 ≤ 30 ∧ ∀ k, 0 ≤ k → k < M 24 7 → 0 ≤ M 31 k ∧ M 31 k < 60
theorem z_isEcho {j : Int} (hP : PhI M) (hp0 : 0 ≤ p) (hp1 : p < M 24 25) (hK : KOk M) (hj0 : 0 ≤ j) (hj1 : j ≤ 30) : Ret 0 0 0 mM_isEcho [.inr 24, .inl p, .inl j] (S0 N) M (Pu (S0 N) M (bi (ecP (M 31) (M 24 7) (M 45 p) (M 46 p) j))) := by
  obtain ⟨a, b⟩ := hP
  obtain ⟨b1, b2, b3, b4⟩ := b p hp0 hp1
  obtain ⟨k1, k2, k3⟩ := hK
  have loop : ∀ (n i : Nat), 1 ≤ i → (i : Int) + n = M 46 p → M 45 p + M 46 p ≤ M 24 7 → j + M 46 p ≤ M 24 7 → (∀ k : Nat, k < i → M 31 (j + k) - M 31 (M 45 p + k) = M 31 j - M 31 (M 45 p)) → AJ 0 0 0 mM_isEcho (Pu (S0 N) M (bi (ecP (M 31) (M 24 7) (M 45 p) (M 46 p) j))) 0 0 59 [some (.inr 24), some (.inl p), some (.inl j), some (.inl (M 31 j - M 31 (M 45 p))), some (.inl i)] [] (S0 N) M := by
    intro n
    induction n with
    | zero =>
      intro i i1 hi c1 c2 hk
      refine aM_isEcho [] 40 (fun hM => ?_)
      refine ⟨by omega, by omega, ite_i (fun q => by omega) (fun q => ?_)⟩
      exact ⟨Or.inr rfl, pu_eq (bi_t ⟨c1, c2, fun k hk2 => hk k (by omega)⟩).symm⟩
    | succ n ih =>
      intro i i1 hi c1 c2 hk
      have r1 := k3 (j + i) (by omega) (by omega)
      have r2 := k3 (M 45 p + i) (by omega) (by omega)
      have r3 := k3 j (by omega) (by omega)
      have r4 := k3 (M 45 p) (by omega) (by omega)
      refine aM_isEcho [59] 40 (fun hM => ?_)
      refine ⟨by omega, by omega, ite_i (fun q => ?_) (fun q => by omega)⟩
      refine ⟨by omega, by omega, by omega, ⟨by omega, by omega⟩, ite_i (fun q2 => ?_) (fun q2 => ?_)⟩
      · have h2 := ih (i + 1) (by omega) (by omega) c1 c2 (fun k hk2 => by
          by_cases hki : k < i
          · exact hk k hki
          · have : k = i := by omega
            subst this
            exact q2)
        rw [show ((i + 1 : Nat) : Int) = (i : Int) + 1 by omega] at h2
        exact h2
      · exact ⟨Or.inl rfl, pu_eq (bi_f (fun z => q2 (z.2.2 i (by omega)))).symm⟩
  refine eM_isEcho [59] 40 (Nat.le_of_ble_eq_true rfl) (fun hM => ?_)
  refine ⟨by omega, by omega, ⟨by omega, by omega⟩, ite_i (fun q => ?_) (fun q => ?_)⟩
  · exact ⟨Or.inl rfl, pu_eq (bi_f (fun z => by have := z.1; omega)).symm⟩
  · refine ⟨by omega, ⟨by omega, by omega⟩, ite_i (fun q2 => ?_) (fun q2 => ?_)⟩
    · exact ⟨Or.inl rfl, pu_eq (bi_f (fun z => by have := z.2.1; omega)).symm⟩
    · refine ⟨by omega, by omega, by omega, ?_⟩
      have e : (1 : Int) + ((M 46 p - 1).toNat : Int) = M 46 p := by omega
      exact loop (M 46 p - 1).toNat 1 (by omega) (by omega) (by omega) (by omega) (fun k hk => by
        have : k = 0 := by omega
        subst this
        show M 31 (j + 0) - M 31 (M 45 p + 0) = _
        rw [Int.add_zero, Int.add_zero])
theorem z_likeness {j : Int} (hP : PhI M) (hp0 : 0 ≤ p) (hp1 : p < M 24 25) (hK : KOk M) (hj0 : 0 ≤ j) (hi1 : M 45 p + M 46 p ≤ M 24 7) (hj1 : j + M 46 p ≤ M 24 7) : Ret 1 0 0 mM_likeness [.inr 24, .inl p, .inl j] (S0 N) M (Pu (S0 N) M (alk (M 31) (M 45 p) j (M 46 p).toNat)) := by
  obtain ⟨a, b⟩ := hP
  obtain ⟨b1, b2, b3, b4⟩ := b p hp0 hp1
  obtain ⟨k1, k2, k3⟩ := hK
  have loop : ∀ (n i : Nat), (i : Int) + n = M 46 p → AJ 1 0 0 mM_likeness (Pu (S0 N) M (alk (M 31) (M 45 p) j (M 46 p).toNat)) 0 0 5 [some (.inr 24), some (.inl p), some (.inl j), some (.inl (alk (M 31) (M 45 p) j i)), some (.inl i)] [] (S0 N) M := by
    intro n
    induction n with
    | zero =>
      intro i hi
      have ar := alk_rng (K := M 31) (i := M 45 p) (j := j) i
      refine aM_likeness [] 40 (fun hM => ?_)
      refine ⟨by omega, by omega, ite_i (fun q => by omega) (fun q => ?_)⟩
      exact pu_eq (by rw [show (M 46 p).toNat = i by omega])
    | succ n ih =>
      intro i hi
      have ar := alk_rng (K := M 31) (i := M 45 p) (j := j) i
      have r1 := k3 (j + i) (by omega) (by omega)
      have r2 := k3 (M 45 p + i) (by omega) (by omega)
      have h2 := ih (i + 1) (by omega)
      rw [show ((i + 1 : Nat) : Int) = (i : Int) + 1 by omega] at h2
      have ea : alk (M 31) (M 45 p) j (i + 1) = alk (M 31) (M 45 p) j i + (if (blk (M 31 (j + i)) ↔ blk (M 31 (M 45 p + i))) then 1 else 0) := rfl
      rw [ea] at h2
      refine aM_likeness [5] 40 (fun hM => ?_)
      refine ⟨by omega, by omega, ite_i (fun q => ?_) (fun q => by omega)⟩
      refine ⟨by omega, ?_⟩
      refine CL.bl (z_isBlack (by omega) (by omega)) (Nat.le_of_ble_eq_true rfl) (fun q1 => ?_) (fun q1 => ?_)
      · refine ⟨by omega, by omega, CL.bl (z_isBlack (by omega) (by omega)) (Nat.le_of_ble_eq_true rfl) (fun q2 => ?_) (fun q2 => ?_)⟩
        · rw [if_pos (iff_of_true q1 q2)] at h2
          refine ⟨⟨R32_1, R32_1⟩, ?_⟩
          exact h2
        · rw [if_neg (fun z => q2 (z.mp q1))] at h2
          refine ⟨⟨R32_1, R32_0⟩, ?_⟩
          exact h2
      · refine ⟨by omega, by omega, CL.bl (z_isBlack (by omega) (by omega)) (Nat.le_of_ble_eq_true rfl) (fun q2 => ?_) (fun q2 => ?_)⟩
        · rw [if_neg (fun z => q1 (z.mpr q2))] at h2
          refine ⟨⟨R32_0, R32_1⟩, ?_⟩
          exact h2
        · rw [if_pos (iff_of_false q1 q2)] at h2
          refine ⟨⟨R32_0, R32_0⟩, ?_⟩
          exact h2
  refine eM_likeness [5] 40 (Nat.le_of_ble_eq_true rfl) (fun hM => ?_)
  exact loop (M 46 p).toNat 0 (by omega)
/-- the key of note k of hand h -/
abbrev kyF (M : Mm) (h : Int) : Int → Int := fun k => M 25 (30 * h + nmo (fK M h) k 30)
theorem laid_31 {M M1 : Mm} {h : Int} (hl : Laid M M1 h) {k : Int} (h0 : 0 ≤ k) (h1 : k < cnt (fK M h) 30) : M1 31 k = kyF M h k := by
  obtain ⟨m, a, b, c⟩ := nmo_ex h0 h1
  have h3 := hl.2.2.1 m a b
  rw [c] at h3
  show M1 31 k = M 25 (30 * h + nmo (fK M h) k 30)
  rw [nmo_is a b c]; exact h3.1
theorem laid_KOk {M M1 : Mm} {h : Int} (hh : isH h) (hK : KyI M) (hl : Laid M M1 h) : KOk M1 := by
  have cr := cnt_rng (fK M h) 30
  unfold KOk
  rw [hl.2.1]
  refine ⟨by omega, by omega, fun k z1 z2 => ?_⟩
  rw [laid_31 hl z1 z2]
  have no := nmo_ok z1 z2
  have ky := hK (30 * h + nmo (fK M h) k 30) (by omega) (by omega)
  have kne : M 25 (30 * h + nmo (fK M h) k 30) ≠ -9 := no.2.2.1
  show 0 ≤ M 25 (30 * h + nmo (fK M h) k 30) ∧ M 25 (30 * h + nmo (fK M h) k 30) < 60
  omega
/-- where the k-th echo of the phrase at p begins -/
def echS (M : Mm) (p k : Int) : Int := eaV (ecP (kyF M (M 44 p)) (cnt (fK M (M 44 p)) 30) (M 45 p) (M 46 p)) (cnt (fK M (M 44 p)) 30 - (M 45 p + M 46 p)).toNat (M 45 p + M 46 p) k
theorem z_echoAt {k : Int} (hP : PhI M) (hK : KyI M) (hp0 : 0 ≤ p) (hp1 : p < M 24 25) (hk0 : 0 ≤ k) (hk1 : k ≤ 29) : Ret 1 0 0 mM_echoAt [.inr 24, .inl p, .inl k] (S0 N) M (fun r S' M' => r = some (.inl (echS M p k)) ∧ S' = S0 N ∧ Laid M M' (M 44 p)) := by
  have a := hP.1
  have b := hP.2 p hp0 hp1
  have cr := cnt_rng (fK M (M 44 p)) 30
  refine eM_echoAt [27] 40 (Nat.le_of_ble_eq_true rfl) (fun hM => ?_)
  refine ⟨by omega, ⟨0, _, (Nat.le_of_ble_eq_true rfl), z_layNotes b.2.1 hK, ?_⟩⟩
  rintro r S' M1 ⟨rfl, rfl, hl⟩ hM1
  have f : ∀ c j, ¬ (c = 31 ∨ c = 32 ∨ (c = 24 ∧ (j = 6 ∨ j = 7))) → M1 c j = M c j := hl.2.2.2
  have e5 : M1 45 p = M 45 p := f _ _ (by omega)
  have e6 : M1 46 p = M 46 p := f _ _ (by omega)
  have e25 : M1 24 25 = M 24 25 := f _ _ (by omega)
  have e7 : M1 24 7 = cnt (fK M (M 44 p)) 30 := hl.2.1
  have hP1 : PhI M1 := by
    unfold PhI at *
    rw [e25]
    refine ⟨a, fun q z1 z2 => ?_⟩
    rw [f 43 _ (by omega), f 44 _ (by omega), f 45 _ (by omega), f 46 _ (by omega)]; exact hP.2 q z1 z2
  have hK1 := laid_KOk b.2.1 hK hl
  have loop : ∀ (n : Nat) (j kk : Int), M 45 p + M 46 p ≤ j → j + n = max (M1 24 7) (M 45 p + M 46 p) → 0 ≤ kk → kk ≤ 29 → AJ 1 0 0 mM_echoAt (fun r S' M' => r = some (.inl (eaV (ecP (M1 31) (M1 24 7) (M 45 p) (M 46 p)) n j kk)) ∧ S' = S0 N ∧ Laid M M' (M 44 p)) 0 0 27 [some (.inr 24), some (.inl p), some (.inl k), some (.inl kk), some (.inl j)] [] (S0 N) M1 := by
    intro n
    induction n with
    | zero =>
      intro j kk hj hn h0 h1
      refine aM_echoAt [] 40 (fun hM => ?_)
      exact ⟨by omega, ite_i (fun q => by omega) (fun q => ⟨rfl, rfl, hl⟩)⟩
    | succ n ih =>
      intro j kk hj hn h0 h1
      have E := z_isEcho (N := N) (j := j) hP1 hp0 (by omega) hK1 (by omega) (by omega)
      rw [e5, e6] at E
      refine aM_echoAt [27] 40 (fun hM => ?_)
      refine ⟨by omega, ite_i (fun q => ?_) (fun q => by omega)⟩
      refine CL.bl E (Nat.le_of_ble_eq_true rfl) (fun q1 => ?_) (fun q1 => ?_)
      · refine ⟨R32_1, by omega, ite_i (fun q2 => ?_) (fun q2 => ?_)⟩
        · refine ⟨?_, rfl, hl⟩
          unfold eaV; rw [if_pos q1, if_pos q2]
        · have h2 := ih (j + 1) (kk - 1) (by omega) (by omega) (by omega) (by omega)
          unfold eaV; rw [if_pos q1, if_neg q2]
          exact h2
      · have h2 := ih (j + 1) kk (by omega) (by omega) (by omega) (by omega)
        refine ⟨R32_0, ?_⟩
        unfold eaV; rw [if_neg q1]
        exact h2
  have h2 := loop (M1 24 7 - (M 45 p + M 46 p)).toNat (M 45 p + M 46 p) k (by omega) (by omega) hk0 hk1
  rw [← e5, ← e6] at h2
  have ev : eaV (ecP (M1 31) (M1 24 7) (M 45 p) (M 46 p)) (M1 24 7 - (M 45 p + M 46 p)).toNat (M 45 p + M 46 p) k = echS M p k := by
    unfold echS
    rw [← e7]
    exact eaV_congr _ _ _ (fun i z1 z2 => ecP_congr (by omega) (by omega) (by omega) (fun q y1 y2 => laid_31 hl y1 (by omega)))
  rw [e5, e6, ev] at h2
  refine ⟨by omega, by omega, ?_⟩
  rw [← e5, ← e6] at h2
  exact h2
end Ec
