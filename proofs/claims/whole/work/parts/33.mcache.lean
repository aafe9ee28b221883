/-! ===== the reference keeps what it found ===== -/
section De
variable {M M' : Mm}
theorem de_BR (h : DEq M M') (ht : M 24 12 = 0 ∨ TOk M) (hn : 0 < M 24 7) {p : Int → Int} (hp : ∀ k, 0 ≤ k → k ≤ M 24 7 - 1 → 1 ≤ p k ∧ p k ≤ 5) (hB : BR M p) : BR M' p := by
  obtain ⟨b1, b2, b3⟩ := hB
  have rt : ∀ lo, 0 ≤ lo → rowT M p lo → rowT M' p lo := by
    intro lo h0 hr k q1 q2
    rw [h.2.1] at q2
    have q := hp k (by omega) (by omega)
    rw [de_rsT h (by omega) (by omega) q.1 q.2]
    exact (hr k q1 q2).congr (fun g g1 g2 => by rw [de_rsT h (by omega) (by omega) g1 g2, (de_go h (by omega) (by omega)).1])
  have es : ∀ f, 1 ≤ f → f ≤ 5 → stC M' f = stC M f := by
    intro f q1 q2
    have eo := de_ok h (k := 0) (f := f) (by omega) (by omega)
    unfold stC okM
    rw [eo.1, eo.2]
    have ea : A0 M' f = A0 M f := by
      unfold A0
      rw [h.2.2.1]
      rcases ht with ht | ht
      · rw [if_neg (by omega), if_neg (by omega)]; exact de_rsT h (by omega) (by omega) q1 q2
      · have t := ht.1
        rw [if_pos t, if_pos t]
        exact de_rsH h ht (by omega) ht.2.1 q1 q2
    rw [ea]
  have et : tot M' = tot M := m5_congr es
  refine ⟨?_, fun h0 => ?_, fun h0 => ?_⟩
  · rw [et]; exact b1.congr (fun g q1 q2 => (es g q1 q2).symm)
  · rw [h.2.2.1] at h0; exact rt 0 (by omega) (b2 h0)
  · rw [h.2.2.1] at h0
    have hT : TOk M := by
      rcases ht with ht | ht
      · omega
      · exact ht
    obtain ⟨t1, t2, t3, t4⟩ := id hT
    obtain ⟨c1, c2, c3, c4, c5⟩ := b3 h0
    have e := h.2.2.2.1 h0
    have px := hp (M 24 10) t2 (by omega)
    rw [e.1, e.2, h.2.2.1]
    refine ⟨fun k q1 q2 => ?_, fun k q1 q2 => ?_, fun k q1 q2 => ?_, c4, rt _ (by omega) c5⟩
    · have q := hp k q1 (by omega)
      rw [de_rsH h hT q1 (by omega) q.1 q.2]
      exact (c1 k q1 q2).congr (fun g g1 g2 => by rw [de_rsH h hT (by omega) (by omega) g1 g2, (de_go h q1 (by omega)).1])
    · have q := hp (M 24 10 + k) (by omega) (by omega)
      rw [de_jtX h hT q1 (by omega) q.1 q.2]
      exact (c2 k q1 q2).congr (fun g g1 g2 => by rw [de_jtX h hT (by omega) (by omega) g1 g2, de_js h hT q1 (by omega)])
    · have q := hp k (by omega) (by omega)
      rw [de_rsX h hT (by omega) (by omega) q.1 q.2]
      exact (c3 k q1 q2).congr (fun g g1 g2 => by rw [de_rsX h hT (by omega) (by omega) g1 g2, (de_go h (by omega) (by omega)).1])
end De
theorem DEq.symm {M M' : Mm} (h : DEq M M') : DEq M' M := by
  obtain ⟨e6, e7, e12, e10, ek, r7, r8, r9, r0⟩ := h
  refine ⟨e6.symm, e7.symm, e12.symm, fun q => ?_, fun k q1 q2 => ?_, r7.symm, r8.symm, r9.symm, r0.symm⟩
  · rw [e12] at q; exact ⟨(e10 q).1.symm, (e10 q).2.symm⟩
  · rw [e7] at q2; exact ⟨(ek k q1 q2).1.symm, (ek k q1 q2).2.symm⟩
/-- the same hands, marks, rules and ties -/
def CE (M M' : Mm) : Prop := M' 25 = M 25 ∧ M' 26 = M 26 ∧ M' 27 = M 27 ∧ M' 28 = M 28 ∧ M' 29 = M 29 ∧ M' 30 = M 30 ∧ M' 40 = M 40 ∧ M' 41 = M 41 ∧ M' 42 = M 42
theorem ce_fK {M M' : Mm} (h : CE M M') (hd : Int) : fK M' hd = fK M hd := by funext m; show M' 25 _ = M 25 _; rw [h.1]
theorem ce_thd {M M' : Mm} (h : CE M M') (hd : Int) : thd M' hd ↔ thd M hd := by
  obtain ⟨a1, a2, a3, a4, a5, a6, a7, a8, a9⟩ := id h
  unfold thd
  rw [a7, a8, a9, ce_fK h]
theorem ce_LM {M M' : Mm} (h : CE M M') (hd : Int) : DEq (LM M hd) (LM M' hd) := by
  obtain ⟨a1, a2, a3, a4, a5, a6, a7, a8, a9⟩ := id h
  refine ⟨by rw [LM_6, LM_6], by rw [LM_7, LM_7, ce_fK h], ?_, fun _ => ⟨by rw [LM_10, LM_10, a7], by rw [LM_11, LM_11, a8]⟩, fun k _ _ => ⟨by rw [LM_31, LM_31, a1, ce_fK h], by rw [LM_32, LM_32, a2, ce_fK h]⟩, by rw [LM_o 27 (by omega), LM_o 27 (by omega), a3], by rw [LM_o 28 (by omega), LM_o 28 (by omega), a4], by rw [LM_o 29 (by omega), LM_o 29 (by omega), a5], by rw [LM_o 30 (by omega), LM_o 30 (by omega), a6]⟩
  rw [LM_12, LM_12]
  by_cases hc : thd M hd
  · rw [if_pos hc, if_pos ((ce_thd h hd).mpr hc), a9]
  · rw [if_neg hc, if_neg (fun z => hc ((ce_thd h hd).mp z))]
theorem ce_bst {M M' : Mm} (h : CE M M') {hd : Int} (hh : hd = 0 ∨ hd = 1) (hI : MI M) : bst M' hd = bst M hd := de_lrV (ce_LM h hd) (LM_tie hh hI.2.2) (LM_ok hh hI.1 hI.2.1).2.2.1
theorem FrM.ce {M M' : Mm} (h : FrM M M') : CE M M' := ⟨by funext j; exact h _ j (by omega), by funext j; exact h _ j (by omega), by funext j; exact h _ j (by omega), by funext j; exact h _ j (by omega), by funext j; exact h _ j (by omega), by funext j; exact h _ j (by omega), by funext j; exact h _ j (by omega), by funext j; exact h _ j (by omega), by funext j; exact h _ j (by omega)⟩
/-- what is kept of hand h -/
def Kp (M : Mm) (h : Int) : Prop := M 38 h = bst M h ∧ (bst M h ≠ -9 → 0 < cnt (fK M h) 30 → (∀ k, 0 ≤ k → k ≤ cnt (fK M h) 30 - 1 → 1 ≤ M 39 (30 * h + k) ∧ M 39 (30 * h + k) ≤ 5) ∧ BR (LM M h) (pf M (30 * h)))
theorem Kp.ce {M M' : Mm} {h : Int} (hk : Kp M h) (hc : CE M M') (hh : h = 0 ∨ h = 1) (hI : MI M) (h38 : M' 38 h = M 38 h) (h39 : ∀ k, 0 ≤ k → k < 30 → M' 39 (30 * h + k) = M 39 (30 * h + k)) : Kp M' h := by
  have eb := ce_bst hc hh hI
  have ef := ce_fK hc h
  have cr := cnt_rng (fK M h) 30
  refine ⟨by rw [h38, eb]; exact hk.1, fun q1 q2 => ?_⟩
  rw [eb] at q1
  rw [ef] at q2 ⊢
  obtain ⟨r1, r2⟩ := hk.2 q1 q2
  refine ⟨fun k z1 z2 => by rw [h39 k z1 (by omega)]; exact r1 k z1 z2, ?_⟩
  have hB := de_BR (ce_LM hc h) (LM_tie hh hI.2.2) (by rw [LM_7]; exact q2) (p := pf M (30 * h)) (fun k z1 z2 => r1 k z1 (by rw [LM_7] at z2; exact z2)) r2
  -- the fingers are the same
  have e7 : LM M' h 24 7 = cnt (fK M h) 30 := by rw [LM_7, ef]
  have pe : ∀ k, 0 ≤ k → k < 30 → pf M' (30 * h) k = pf M (30 * h) k := fun k z1 z2 => h39 k z1 z2
  have ht' := tie_de (ce_LM hc h) (LM_tie hh hI.2.2)
  obtain ⟨b1, b2, b3⟩ := hB
  have rt : ∀ lo, 0 ≤ lo → rowT (LM M' h) (pf M (30 * h)) lo → rowT (LM M' h) (pf M' (30 * h)) lo := fun lo h0 hr k z1 z2 => by
    rw [pe k (by omega) (by omega), pe (k + 1) (by omega) (by omega)]; exact hr k z1 z2
  refine ⟨by rw [pe 0 (by omega) (by omega)]; exact b1, fun z => rt 0 (by omega) (b2 z), fun z => ?_⟩
  have hT : TOk (LM M' h) := by
    rcases ht' with q | q
    · omega
    · exact q
  obtain ⟨t1, t2, t3, t4⟩ := id hT
  obtain ⟨c1, c2, c3, c4, c5⟩ := b3 z
  refine ⟨fun k z1 z2 => ?_, fun k z1 z2 => ?_, fun k z1 z2 => ?_, fun k z1 z2 => ?_, rt _ (by omega) c5⟩
  · rw [pe k (by omega) (by omega), pe (k + 1) (by omega) (by omega)]; exact c1 k z1 z2
  · rw [pe _ t2 (by omega), pe (LM M' h 24 10 + k) (by omega) (by omega), pe (LM M' h 24 10 + k + 1) (by omega) (by omega)]; exact c2 k z1 z2
  · rw [pe _ t2 (by omega), pe k (by omega) (by omega), pe (k + 1) (by omega) (by omega)]; exact c3 k z1 z2
  · rw [pe (LM M' h 24 11 + k) (by omega) (by omega), pe (LM M' h 24 10 + k) (by omega) (by omega)]; exact c4 k z1 z2
/-- the reference's marks of what it has found -/
def ChI (M : Mm) : Prop := (M 24 18 = 0 ∨ (M 24 18 = 1 ∧ Kp M 0)) ∧ (M 24 19 = 0 ∨ (M 24 19 = 1 ∧ Kp M 1))
/-- cells that the reference may change when it is asked -/
abbrev scA (c : Nat) (j : Int) : Prop := scM c j ∨ c = 38 ∨ c = 39 ∨ (c = 24 ∧ (j = 18 ∨ j = 19))
def FrA (M M' : Mm) : Prop := ∀ c j, ¬ scA c j → M' c j = M c j
theorem FrA.ce {M M' : Mm} (h : FrA M M') : CE M M' := ⟨by funext j; exact h _ j (by omega), by funext j; exact h _ j (by omega), by funext j; exact h _ j (by omega), by funext j; exact h _ j (by omega), by funext j; exact h _ j (by omega), by funext j; exact h _ j (by omega), by funext j; exact h _ j (by omega), by funext j; exact h _ j (by omega), by funext j; exact h _ j (by omega)⟩
theorem MI.ce {M M' : Mm} (h : MI M) (hF : CE M M') (h34 : M' 3 = M 3 ∧ M' 4 = M 4) : MI M' := by
  obtain ⟨a1, a2, a3, a4, a5, a6, a7, a8, a9⟩ := hF
  obtain ⟨h1, h2, h3⟩ := h
  refine ⟨?_, ?_, ?_⟩
  · unfold RuI at *; rw [a3, a4, a5, a6, h34.1, h34.2]; exact h1
  · unfold KyI at *; rw [a1, a2]; exact h2
  · unfold TieI at *; rw [a7, a8, a9]; exact h3
