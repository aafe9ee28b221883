/-! ===== the class: leastCost, step by step ===== -/
section Lw
variable {N : Nat} {L M : Mm}
/-- behind the fold: rows of costs, the tail of the table -/
def LwI (L M B : Mm) : Prop := FN L B ∧ FrR M B ∧ ∀ m f, L 24 11 + L 24 12 ≤ m → m < L 24 7 → 1 ≤ f → f ≤ 5 → FQ 1500 (B 16 (5 * m + f - 1)) (nk L m f + rsT L m f) ∧ 0 ≤ B 16 (5 * m + f - 1) ∧ B 16 (5 * m + f - 1) ≤ 1100000
theorem LwI.lead {B : Mm} {s : Int} (hT : TOk L) (h : LwI L M B) : LwI L M (lT B s) := by
  obtain ⟨t1, t2, t3, t4⟩ := id hT
  obtain ⟨a, b, c⟩ := h
  obtain ⟨e7, e8, e9⟩ := a.1.2 t1
  have o : ∀ c j, ¬ (c = 16 ∧ 5 * L 24 10 ≤ j ∧ j < 5 * (L 24 11 + 1)) → lT B s c j = B c j := fun c j q => lT_o (by omega) (by omega)
  refine ⟨a.fr (fun c j q => o c j (by omega)), fun c j q => by rw [o c j (by omega)]; exact b c j q, fun m f q1 q2 f1 f2 => ?_⟩
  rw [o 16 _ (by omega)]; exact c m f q1 q2 f1 f2
theorem LwI.st {B B' : Mm} (h : LwI L M B) (hf : ∀ c j, ¬ (c = 17 ∨ c = 18 ∨ (c = 16 ∧ j < 5 * (L 24 11 + L 24 12))) → B' c j = B c j) : LwI L M B' := by
  obtain ⟨a, b, c⟩ := h
  refine ⟨a.fr (fun c j q => hf c j (by omega)), fun c j q => by rw [hf c j (by omega)]; exact b c j q, fun m f q1 q2 f1 f2 => ?_⟩
  rw [hf 16 _ (by omega)]; exact c m f q1 q2 f1 f2
/-- heads of fingers 1 to s -/
def HdI (L B : Mm) (s : Int) : Prop := ∀ e, 1 ≤ e → e ≤ s → FQ 5000 (B 17 (e - 1)) (nk L (L 24 10) e + rsH L (L 24 10) e) ∧ 0 ≤ B 17 (e - 1) ∧ B 17 (e - 1) ≤ 1100000
theorem t_leadTo' {B : Mm} {s : Int} (hT : TOk L) (h30 : L 24 7 ≤ 30) (hF : FN L B) (hs0 : 0 ≤ s) (hs1 : s ≤ 4) : Ret 4 0 0 mR_leadTo [.inr 13, .inl s] (S0 N) B (Vo (S0 N) (lT B (s + 1))) := by
  obtain ⟨t1, t2, t3, t4⟩ := id hT
  obtain ⟨e7, e8, e9⟩ := hF.1.2 t1
  have e6 := hF.1.1
  exact t_leadTo hs0 hs1 (by omega) (by omega) (by omega) (by omega) (ld_sw hT h30 hF)
theorem lead_bd {B : Mm} {s : Int} (hT : TOk L) (h30 : L 24 7 ≤ 30) (hF : FN L B) : ∀ m f, L 24 10 ≤ m → m ≤ L 24 11 - 1 → 1 ≤ f → f ≤ 5 → 0 ≤ lT B s 16 (5 * m + f - 1) ∧ lT B s 16 (5 * m + f - 1) ≤ 1100000 := by
  obtain ⟨t1, t2, t3, t4⟩ := id hT
  obtain ⟨e7, e8, e9⟩ := hF.1.2 t1
  intro m f q1 q2 f1 f2
  exact swp_bd _ (B 13 8 - 1) (B 13 7) _ (ld_sw hT h30 hF) (by omega) m f (by omega) (by omega) f1 f2
theorem head_fq {B : Mm} {s : Int} (hT : TOk L) (hI : RuI L) (h30 : L 24 7 ≤ 30) (hF : FN L B) (hs0 : 1 ≤ s) (hs1 : s ≤ 5) : FQ 5000 (lT B s 16 (5 * L 24 10 + s - 1)) (nk L (L 24 10) s + rsH L (L 24 10) s) := by
  obtain ⟨t1, t2, t3, t4⟩ := id hT
  have h := (lead_fq hT hI h30 hF hs0 hs1).2.2 0 s (by omega) t1 hs0 hs1
  rw [show L 24 10 + 0 = L 24 10 by omega, show L 24 11 + 0 = L 24 11 by omega] at h
  have eh : rsH L (L 24 10) s = wtX L s := by unfold rsH; rw [bz_e]
  have jr := jtX_rng hI hT (k := 0) hs0 hs1 (by omega) hs0 hs1
  have k1 := nk_rng hI (L 24 10) s
  have k2 := nk_rng hI (L 24 11) s
  rw [eh]
  unfold wtX
  by_cases q : okM L (L 24 10) s ∧ okM L (L 24 11) s
  · rw [if_pos q]
    have e2 : nk L (L 24 11) s = ncM L (L 24 11) s := if_pos q.2
    rw [e2] at h k2
    refine fq_clp (by omega) ?_ k1.1 (by omega)
    rw [show nk L (L 24 10) s + (jtX L s 0 s + ncM L (L 24 11) s) = nk L (L 24 10) s + ncM L (L 24 11) s + jtX L s 0 s by omega]
    exact h
  · rw [if_neg q]
    right
    refine ⟨h.inf (by omega) ?_, by omega⟩
    by_cases q1 : okM L (L 24 10) s
    · have : nk L (L 24 11) s = 1000000 := if_neg (fun z => q ⟨q1, z⟩)
      omega
    · have : nk L (L 24 10) s = 1000000 := if_neg q1
      omega
variable {Φ : Option Vl → Ly → Mm → Prop} {b : Nat} {x f : Int}
theorem t_lc_56 (hT : TOk L) (hI : RuI L) (h30 : L 24 7 ≤ 30) (kk : ∀ B, LwI L M B → HdI L B 5 → AJ 5 0 0 mR_leastCost Φ 0 0 99 [some (.inr 13), some (.inr b), some (.inl x), some (.inl f), some (.inl 5)] [] (S0 N) B) : ∀ (n : Nat) (s : Int) (B : Mm), 0 ≤ s → s + n = 5 → LwI L M B → HdI L B s → AJ 5 0 0 mR_leastCost Φ 0 0 56 [some (.inr 13), some (.inr b), some (.inl x), some (.inl f), some (.inl s)] [] (S0 N) B := by
  intro n
  obtain ⟨t1, t2, t3, t4⟩ := id hT
  induction n with
  | zero =>
    intro s B s0 sn hB hH
    have : s = 5 := by omega
    subst this
    refine aR_leastCost [99] 30 (fun hM => ?_)
    exact ⟨by decide, kk B hB hH⟩
  | succ n ih =>
    intro s B s0 sn hB hH
    have hl := hB.lead hT (s := s + 1)
    obtain ⟨e7, e8, e9⟩ := hl.1.1.2 t1
    have b1 := lead_bd (s := s + 1) hT h30 hB.1 (L 24 10) (s + 1) (by omega) (by omega) (by omega) (by omega)
    have f1 := head_fq (s := s + 1) hT hI h30 hB.1 (by omega) (by omega)
    rw [show 5 * L 24 10 + (s + 1) - 1 = lT B (s + 1) 13 7 * 5 + s by omega] at b1 f1
    have Le := t_leadTo' (N := N) hT h30 hB.1 s0 (by omega)
    have T := t_at (N := N) (c := 16) (n := 150) (p := lT B (s + 1) 13 7 * 5 + s) (M := lT B (s + 1)) rfl (by omega) (by omega) (Nat.le_of_ble_eq_true rfl)
    have St := t_store (N := N) (c := 17) (n := 5) (p := s) (v := lT B (s + 1) 16 (lT B (s + 1) 13 7 * 5 + s)) (M := lT B (s + 1)) rfl (by decide) (by omega) (by omega) (Nat.le_of_ble_eq_true rfl) (by omega)
    refine aR_leastCost [56] 40 (fun hM => ?_)
    refine ⟨by omega, ite_i (fun _ => ?_) (fun q => by omega)⟩
    refine CL.vo Le (Nat.le_of_ble_eq_true rfl) (fun hM2 => CL.pu T (Nat.le_of_ble_eq_true rfl) (CL.vo St (Nat.le_of_ble_eq_true rfl) (fun hM3 => ?_)))
    refine ih (s + 1) _ (by omega) (by omega) (hl.st (fun c j q => mset_ne (by omega))) (fun e e1 e2 => ?_)
    by_cases q : e = s + 1
    · subst q
      rw [show s + 1 - 1 = s by omega, mset_eq]
      exact ⟨f1, b1⟩
    · rw [mset_ne (by omega), lT_o (by omega) (by have := (hB.1.1.2 t1); omega)]
      exact hH e e1 (by omega)
theorem t_lc_102 {B : Mm} (h7 : B 13 7 = L 24 10) (hi0 : 0 ≤ L 24 10) (hi1 : L 24 10 < 30) (hH : HdI L B 5) (kk : AJ 5 0 0 mR_leastCost Φ 0 0 139 [some (.inr 13), some (.inr b), some (.inl x), some (.inl f), some (.inl 5)] [] (S0 N) (wr B 16 (5 * L 24 10 - 1) (fun e => B 17 (e - 1)) 5)) : ∀ (n s : Nat), s + n = 5 → AJ 5 0 0 mR_leastCost Φ 0 0 102 [some (.inr 13), some (.inr b), some (.inl x), some (.inl f), some (.inl s)] [] (S0 N) (wr B 16 (5 * L 24 10 - 1) (fun e => B 17 (e - 1)) s) := by
  intro n
  induction n with
  | zero =>
    intro s sn
    have : s = 5 := by omega
    subst this
    refine aR_leastCost [139] 30 (fun hM => ?_)
    exact ⟨by decide, kk⟩
  | succ n ih =>
    intro s sn
    have h3 := ih (s + 1) (by omega)
    rw [show ((s + 1 : Nat) : Int) = (s : Int) + 1 by omega] at h3
    have e7 : (wr B 16 (5 * L 24 10 - 1) (fun e => B 17 (e - 1)) s) 13 7 = L 24 10 := by rw [wr_ne (by omega)]; exact h7
    have e17 : (wr B 16 (5 * L 24 10 - 1) (fun e => B 17 (e - 1)) s) 17 s = B 17 s := wr_ne (by omega)
    have hb := (hH (s + 1) (by omega) (by omega)).2
    rw [show (s : Int) + 1 - 1 = s by omega] at hb
    have T := t_at (N := N) (c := 17) (n := 5) (p := s) (M := wr B 16 (5 * L 24 10 - 1) (fun e => B 17 (e - 1)) s) rfl (by omega) (by omega) (Nat.le_of_ble_eq_true rfl)
    rw [e17] at T
    have St := t_store (N := N) (c := 16) (n := 150) (p := (wr B 16 (5 * L 24 10 - 1) (fun e => B 17 (e - 1)) s) 13 7 * 5 + s) (v := B 17 s) (M := wr B 16 (5 * L 24 10 - 1) (fun e => B 17 (e - 1)) s) rfl (by decide) (by omega) (by omega) (Nat.le_of_ble_eq_true rfl) (by omega)
    have es : mset (wr B 16 (5 * L 24 10 - 1) (fun e => B 17 (e - 1)) s) 16 ((wr B 16 (5 * L 24 10 - 1) (fun e => B 17 (e - 1)) s) 13 7 * 5 + s) (B 17 s) = wr B 16 (5 * L 24 10 - 1) (fun e => B 17 (e - 1)) ((s : Int) + 1) := by
      rw [show (wr B 16 (5 * L 24 10 - 1) (fun e => B 17 (e - 1)) s) 13 7 * 5 + (s : Int) = 5 * L 24 10 - 1 + ((s : Int) + 1) by omega]
      exact wr_step (by omega) (by rw [show (s : Int) + 1 - 1 = s by omega])
    rw [es] at St
    refine aR_leastCost [102] 40 (fun hM => ?_)
    refine ⟨by omega, ite_i (fun _ => ?_) (fun q => by omega)⟩
    refine CL.pu T (Nat.le_of_ble_eq_true rfl) (CL.vo St (Nat.le_of_ble_eq_true rfl) (fun hM3 => ?_))
    exact h3
theorem rsH_s {m e : Int} (h : m < L 24 10) : rsH L m e = m5 (fun g => goM L m e g + rsH L (m + 1) g) := by unfold rsH; rw [bz_s h]
theorem t_lc_139 {C : Mm} (hT : TOk L) (hI : RuI L) (h30 : L 24 7 ≤ 30) (hC : LwI L M C) (hi : ∀ e, 1 ≤ e → e ≤ 5 → FQ 5000 (C 16 (5 * L 24 10 + e - 1)) (nk L (L 24 10) e + rsH L (L 24 10) e) ∧ 0 ≤ C 16 (5 * L 24 10 + e - 1) ∧ C 16 (5 * L 24 10 + e - 1) ≤ 1100000) (hΦ : ∀ M', FrR M M' → LcP L M' → Φ (some (.inl (lrV L))) (S0 N) M') : AJ 5 0 0 mR_leastCost Φ 0 0 139 [some (.inr 13), some (.inr b), some (.inl x), some (.inl f), some (.inl 5)] [] (S0 N) C := by
  obtain ⟨t1, t2, t3, t4⟩ := id hT
  obtain ⟨⟨⟨e6, e789⟩, n1, n2, s1, s2, b1, b2⟩, fr, tl⟩ := id hC
  obtain ⟨e7, e8, e9⟩ := e789 t1
  have sb : SwB C (L 24 10 - 1) 0 := by
    refine ⟨fun m f q1 q2 f1 f2 => ?_, fun m f g q1 q2 q3 f1 f2 g1 g2 => ?_, fun q g g1 g2 => ?_⟩
    · have := b1 m f (by omega) (by omega) f1 f2; omega
    · have := b2 m f g (by omega) (by omega) f1 f2 g1 g2; omega
    · have := (hi g g1 g2).2
      rw [show 5 * (L 24 10 - 1 + 1) + g - 1 = 5 * L 24 10 + g - 1 by omega]
      omega
  have S := t_sweep (N := N) (M := C) (fr := L 24 10 - 1) (to := 0) (by omega) (by omega) (by omega) (by omega) sb
  rw [show L 24 10 - 1 + 1 - 0 = L 24 10 by omega] at S
  have sp := swp_spec (L 24 10).toNat (L 24 10 - 1) C
  have lc : LcP L (swp (L 24 10).toNat (L 24 10 - 1) C) := by
    refine ⟨hC.1.fr (fun c j q => sp.2 c j (by omega)), fun m f q1 q2 q3 f1 f2 => ?_⟩
    by_cases hm : m ≤ L 24 10
    · rw [if_pos ⟨t1, hm⟩]
      by_cases hm2 : m = L 24 10
      · subst hm2
        rw [sp.2 16 _ (by omega)]
        have := hi f f1 f2
        exact ⟨this.1.mono (by omega), by omega, by omega⟩
      · have bd := swp_bd (L 24 10).toNat (L 24 10 - 1) 0 C sb (by omega) m f q1 (by omega) f1 f2
        have := sw_fq (L := L) (A := C) (R := rsH L) (lo := 0) (fr := L 24 10 - 1) (K := 5000) (n := (L 24 10).toNat) (by omega) (by omega) e6 (by omega) (by omega) (by omega) (fun m f q1 q2 f1 f2 => n1 m f q1 (by omega) f1 f2 (by omega)) (fun m f g q1 q2 q3 f1 f2 g1 g2 => s1 m f g q1 q3 f1 f2 g1 g2 (by omega)) (fun m g g1 g2 q1 q2 => (rsH_rng hI hT (by omega) g1 g2).1) (fun m f q1 q2 f1 f2 => by rw [if_pos (by omega)]; exact rsH_s (by omega)) (fun q g g1 g2 => by rw [show 5 * (L 24 10 - 1 + 1) + g - 1 = 5 * L 24 10 + g - 1 by omega, show L 24 10 - 1 + 1 = L 24 10 by omega]; exact (hi g g1 g2).1) (by omega) (L 24 10 - 1 - m).toNat m q1 (by omega) f f1 f2
        exact ⟨this.1.mono (by omega), by omega, by omega⟩
    · rw [if_neg (fun z => hm z.2), sp.2 16 _ (by omega)]
      have := tl m f (by have := q3 t1; omega) q2 f1 f2
      exact ⟨this.1.mono (by omega), by omega, by omega⟩
  have an := lc_an lc hI (Or.inr hT) (by omega)
  have An := t_answerOfTable (N := N) (M := swp (L 24 10).toNat (L 24 10 - 1) C) (fun q e e1 e2 => by
    have := (lc.2 0 e (by omega) (by omega) (fun _ => Or.inl t2) e1 e2).2
    rw [show 5 * 0 + e - 1 = e - 1 by omega] at this
    omega)
  rw [an] at An
  have S' : Ret 3 0 0 mR_sweep [.inr 13, .inl (C 13 7 - 1), .inl 0] (S0 N) C (Vo (S0 N) (swp (L 24 10).toNat (L 24 10 - 1) C)) := by rw [e7]; exact S
  refine aR_leastCost [] 30 (fun hM => ?_)
  refine CL.vo S' (Nat.le_of_ble_eq_true rfl) (fun hM2 => CL.pu An (Nat.le_of_ble_eq_true rfl) ?_)
  exact hΦ _ (fun c j q => by rw [sp.2 c j (by omega)]; exact fr c j q) lc
end Lw
