/-! ===== the class: firstBlocked ===== -/
section Fb
variable {N : Nat} {M : Mm} {h : Int} {b k w n : Nat}
/-- the first z + 1 notes alone, without the tie -/
def Lp (M : Mm) (h z : Int) : Mm := mset (mset (LM M h) 24 7 (z + 1)) 24 12 0
theorem Lp_o {z : Int} (c : Nat) (hc : c ≠ 24) : Lp M h z c = LM M h c := by
  funext j; unfold Lp; rw [mset_ne (by omega), mset_ne (by omega)]
theorem Lp_6 {z : Int} : Lp M h z 24 6 = LM M h 24 6 := by unfold Lp; rw [mset_ne (by omega), mset_ne (by omega)]
theorem Lp_7 {z : Int} : Lp M h z 24 7 = z + 1 := by unfold Lp; rw [mset_ne (by omega), mset_eq]
theorem Lp_12 {z : Int} : Lp M h z 24 12 = 0 := mset_eq ..
theorem Lp_ru {z : Int} (hR : RuI (LM M h)) : RuI (Lp M h z) := by
  unfold RuI at *
  rw [Lp_o 3 (by omega), Lp_o 4 (by omega), Lp_o 27 (by omega), Lp_o 28 (by omega), Lp_o 29 (by omega), Lp_o 30 (by omega)]
  exact hR
theorem Lp_ld {z : Int} {A B : Mm} (hL : LdF (LM M h) A) (h1 : z < LM M h 24 7) (hB : ∀ c j, c = 14 ∨ c = 15 → B c j = A c j) (h6 : B 13 6 = z + 1) : LdF (Lp M h z) B := by
  obtain ⟨a, p, q⟩ := hL
  refine ⟨⟨by rw [Lp_7]; exact h6, fun x => by rw [Lp_12] at x; omega⟩, fun m f q1 q2 f1 f2 => ?_, fun m f g q1 q2 f1 f2 g1 g2 => ?_⟩
  · rw [Lp_7] at q2
    rw [hB 14 _ (by omega)]
    have e : nk (Lp M h z) m f = nk (LM M h) m f := by unfold nk okM ncM; rw [Lp_o 32 (by omega), Lp_o 30 (by omega), Lp_o 31 (by omega)]
    rw [e]; exact p m f q1 (by omega) f1 f2
  · rw [Lp_7] at q2
    rw [hB 15 _ (by omega)]
    have e : stM (Lp M h z) m f g = stM (LM M h) m f g := by unfold stM; rw [Lp_o 30 (by omega), Lp_o 31 (by omega), Lp_o 27 (by omega), Lp_o 28 (by omega), Lp_o 29 (by omega), Lp_6]
    rw [e]; exact q m f g q1 (by omega) f1 f2 g1 g2
theorem Lp_an {z : Int} {B : Mm} (hI : RuI (Lp M h z)) (hL : LdF (Lp M h z) B) (z0 : 0 ≤ z) (z1 : z < 30) (hO : LOk (LM M h)) : anV (swp (z + 1).toNat z B) = lrV (Lp M h z) ∧ (lrV (Lp M h z) = -9 ↔ ¬ upF (LM M h) z) ∧ ∀ e, 1 ≤ e → e ≤ 5 → 0 ≤ (swp (z + 1).toNat z B) 16 (e - 1) ∧ (swp (z + 1).toNat z B) 16 (e - 1) ≤ 1100000 := by
  have e7 : Lp M h z 24 7 = z + 1 := Lp_7
  have t0 : Lp M h z 24 12 = 0 := Lp_12
  have sp := swp_spec (z + 1).toNat z B
  have tf := tail_fq hL hI (by omega) (to := 0) (n := (z + 1).toNat) (by omega) (by omega)
  rw [show Lp M h z 24 7 - 1 = z by omega] at tf
  have lc : LcP (Lp M h z) (swp (z + 1).toNat z B) := by
    refine ⟨(FN.plain hL t0).fr (fun c j q => sp.2 c j (by omega)), fun m e q1 q2 _ e1 e2 => ?_⟩
    rw [if_neg (by omega)]
    have := tf m e q1 q2 e1 e2
    exact ⟨this.1.mono (by omega), by omega, by omega⟩
  refine ⟨lc_an lc hI (Or.inl t0) (by omega), ?_, fun e e1 e2 => ?_⟩
  · have ut := up_tot hI (k := z.toNat) (by omega) (by omega) t0
    rw [up_congr (L := LM M h) (fun c hc => Lp_o c hc) Lp_6] at ut
    have eu : upF (LM M h) z ↔ m5 (up (LM M h) z.toNat) < 1000000 := Iff.rfl
    rw [eu, ← ut]
    unfold lrV
    rw [if_neg (by omega)]
    have tr : 0 ≤ tot (Lp M h z) := by
      refine (m5_rng (fun g g1 g2 => ?_)).1
      have nc := ncv_rng hI (Lp M h z 31 0) g
      have nc' : 0 ≤ ncM (Lp M h z) 0 g := nc.1
      have a0 := A0_nn hI (Or.inl t0) (by omega) g1 g2
      unfold stC
      split <;> omega
    split <;> omega
  · have := (tf 0 e (by omega) (by omega) e1 e2).2
    rw [show 5 * 0 + e - 1 = e - 1 by omega] at this
    exact this
theorem t_fb_16 {A : Mm} (hL : LdF (LM M h) A) (hO : LOk (LM M h)) {c : Int} (hc : LM M h 24 7 = c) : ∀ (n : Nat) (z : Int) (B : Mm), 0 ≤ z → z + n = c → FrR M B → (∀ c j, c = 14 ∨ c = 15 → B c j = A c j) → (∀ i, 0 ≤ i → i < z → upF (LM M h) i) → AJ 5 0 0 mR_firstBlocked (fun r S' M' => (∃ v, r = some (.inl v) ∧ StP (upF (LM M h)) c v) ∧ S' = S0 N ∧ FrR M M') 0 0 16 [some (.inr 13), some (.inr b), some (.inl c), some (.inl z)] [] (S0 N) B := by
  have c30 := hO.2.2.2.1
  intro n
  induction n with
  | zero =>
    intro z B z0 zn fr hB hu
    refine aR_firstBlocked [] 30 (fun hM => ?_)
    refine ⟨by omega, ite_i (fun q => by omega) (fun q => ?_)⟩
    exact ⟨⟨_, rfl, Or.inr ⟨rfl, fun i q1 q2 => hu i q1 (by omega)⟩⟩, rfl, fr⟩
  | succ n ih =>
    intro z B z0 zn fr hB hu
    have e6 : (mset B 13 6 (z + 1)) 13 6 = z + 1 := mset_eq ..
    have ld := Lp_ld (B := mset B 13 6 (z + 1)) hL (by omega) (fun c j q => by rw [mset_ne (by omega)]; exact hB c j q) e6
    have fr1 : FrR M (mset B 13 6 (z + 1)) := fun c j q => by rw [mset_ne (by omega)]; exact fr c j q
    have hB1 : ∀ c j, c = 14 ∨ c = 15 → (mset B 13 6 (z + 1)) c j = A c j := fun c j q => by rw [mset_ne (by omega)]; exact hB c j q
    have hI : RuI (Lp M h z) := Lp_ru hO.1
    obtain ⟨an, up, bd⟩ := Lp_an hI ld z0 (by omega) hO
    have sb := ld.swB (to := 0) (by omega)
    rw [e6] at sb
    rw [show z + 1 - 1 = z by omega] at sb
    have Sw := t_sweep (N := N) (M := mset B 13 6 (z + 1)) (fr := z) (to := 0) (by omega) (by omega) (by omega) (by omega) sb
    rw [show z + 1 - 0 = z + 1 by omega] at Sw
    have An := t_answerOfTable (N := N) (M := swp (z + 1).toNat z (mset B 13 6 (z + 1))) (fun _ e e1 e2 => by have := bd e e1 e2; omega)
    rw [an] at An
    have sp := swp_spec (z + 1).toNat z (mset B 13 6 (z + 1))
    have lr : lrV (Lp M h z) = -9 ∨ (0 ≤ lrV (Lp M h z) ∧ lrV (Lp M h z) < 1000000) := by
      refine lrV_rng (Or.inl Lp_12) ⟨hI, by rw [Lp_6]; exact hO.2.1, by rw [Lp_7]; omega, by rw [Lp_7]; omega, fun i q1 q2 => ?_⟩
      rw [Lp_7] at q2
      rw [Lp_o 31 (by omega)]
      exact hO.2.2.2.2 i q1 (by omega)
    generalize lrV (Lp M h z) = v at *
    refine aR_firstBlocked [16] 40 (fun hM => ?_)
    refine ⟨by omega, ite_i (fun _ => ?_) (fun q => by omega)⟩
    refine ⟨⟨by omega, trivial⟩, CL.vo Sw (Nat.le_of_ble_eq_true rfl) (fun hM2 => CL.pu An (Nat.le_of_ble_eq_true rfl) ?_)⟩
    refine ⟨by omega, ite_i (fun q => ?_) (fun q => ?_)⟩
    · exact ⟨⟨_, rfl, Or.inl ⟨z0, by omega, up.mp q, hu⟩⟩, rfl, fun c j q => by rw [sp.2 c j (by omega)]; exact fr1 c j q⟩
    · refine ih (z + 1) _ (by omega) (by omega) (fun c j q => by rw [sp.2 c j (by omega)]; exact fr1 c j q) (fun c j q => by rw [sp.2 c j (by omega)]; exact hB1 c j q) (fun i q1 q2 => ?_)
      by_cases hi : i = z
      · subst hi
        exact Classical.byContradiction (fun x => q (up.mpr x))
      · exact hu i q1 (by omega)
theorem t_firstBlocked (hb : isHC h b k w n) (hH : HnI M h b k w n) (hK : KyI M) (hR : RuI M) (hT : TieI M) : Ret 5 0 0 mR_firstBlocked [.inr 13, .inr b] (S0 N) M (fun r S' M' => (∃ v, r = some (.inl v) ∧ StP (upF (LM M h)) (cnt (fK M h) 30) v) ∧ S' = S0 N ∧ FrR M M') := by
  have hh := hc_h hb
  have eL : LX M h (-9) (-9) = LM M h := by unfold LX; rw [if_pos rfl]
  have Lo := t_load (N := N) (x := -9) (f := -9) hb hH hK hR (by decide) (fun z => absurd rfl z) (by decide) (Or.inl rfl)
  have hO := LM_ok (M := M) hh hR hK
  have fin : ∀ A, Ld h (-9) (-9) b M A → AJ 5 0 0 mR_firstBlocked (fun r S' M' => (∃ v, r = some (.inl v) ∧ StP (upF (LM M h)) (cnt (fK M h) 30) v) ∧ S' = S0 N ∧ FrR M M') 0 0 16 [some (.inr 13), some (.inr b), some (.inl (A 13 6)), some (.inl 0)] [] (S0 N) A := by
    intro A hL
    have lf := ld_f hb hH hL hR hK hT (fun z => absurd rfl z)
    rw [eL] at lf
    have e6 : A 13 6 = cnt (fK M h) 30 := hL.2.1.1
    rw [e6]
    exact t_fb_16 lf hO LM_7 (cnt (fK M h) 30).toNat 0 A (by omega) (by have := cnt_rng (fK M h) 30; omega) (fun c j q => hL.2.2 c j (by omega) (by omega)) (fun _ _ _ => rfl) (fun i q1 q2 => by omega)
  rcases hb with ⟨rfl, rfl, rfl, rfl, rfl⟩ | ⟨rfl, rfl, rfl, rfl, rfl⟩
  all_goals
    refine eR_firstBlocked [16] 30 (Nat.le_of_ble_eq_true rfl) (fun hM => ?_)
    refine ⟨4, _, (Nat.le_of_ble_eq_true rfl), Lo, ?_⟩
    rintro r S' A ⟨rfl, rfl, hL⟩ hA
    exact fin A hL
end Fb
