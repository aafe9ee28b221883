/-! ===== the class: the least row, with a tie ===== -/
/-- what load leaves, against the reference's layout -/
def LdF (L A : Mm) : Prop := (A 13 6 = L 24 7 ∧ (0 < L 24 12 → A 13 7 = L 24 10 ∧ A 13 8 = L 24 11 ∧ A 13 9 = L 24 12)) ∧
  (∀ m f, 0 ≤ m → m < L 24 7 → 1 ≤ f → f ≤ 5 → FQ 20 (A 14 (5 * m + f - 1)) (nk L m f) ∧ 0 ≤ A 14 (5 * m + f - 1) ∧ A 14 (5 * m + f - 1) ≤ 100000) ∧
  (∀ m f g, 0 ≤ m → m + 1 < L 24 7 → 1 ≤ f → f ≤ 5 → 1 ≤ g → g ≤ 5 → FQ 25 (A 15 (25 * m + 5 * f + g - 6)) (stM L m f g) ∧ 0 ≤ A 15 (25 * m + 5 * f + g - 6) ∧ A 15 (25 * m + 5 * f + g - 6) ≤ 100000)
/-- what leastCost leaves -/
def LcP (L A : Mm) : Prop := FN L A ∧ ∀ m f, 0 ≤ m → m < L 24 7 → (0 < L 24 12 → m ≤ L 24 10 ∨ L 24 11 + L 24 12 ≤ m) → 1 ≤ f → f ≤ 5 → FQ 10000 (A 16 (5 * m + f - 1)) (nk L m f + (if 0 < L 24 12 ∧ m ≤ L 24 10 then rsH L m f else rsT L m f)) ∧ 0 ≤ A 16 (5 * m + f - 1) ∧ A 16 (5 * m + f - 1) ≤ 2000000
section Lc
variable {L A : Mm}
theorem FN.plain (h : LdF L A) (h0 : L 24 12 = 0) : FN L A := by
  obtain ⟨a, b, c⟩ := h
  refine ⟨a, fun m f q1 q2 f1 f2 _ => (b m f q1 q2 f1 f2).1, fun u f q1 q2 => by omega, fun m f g q1 q2 f1 f2 g1 g2 _ => (c m f g q1 q2 f1 f2 g1 g2).1, fun u f g q1 q2 => by omega, fun m f q1 q2 f1 f2 => ?_, fun m f g q1 q2 f1 f2 g1 g2 => ?_⟩
  · have := b m f q1 q2 f1 f2; omega
  · have := c m f g q1 q2 f1 f2 g1 g2; omega
theorem LdF.swB (h : LdF L A) {to : Int} (h0 : 0 ≤ to) : SwB A (A 13 6 - 1) to := by
  obtain ⟨a, b, c⟩ := h
  refine ⟨fun m f q1 q2 f1 f2 => ?_, fun m f g q1 q2 q3 f1 f2 g1 g2 => ?_, fun q => by omega⟩
  · have := b m f (by omega) (by omega) f1 f2; omega
  · have := c m f g (by omega) (by omega) f1 f2 g1 g2; omega
/-- the tail, swept -/
theorem tail_fq (h : LdF L A) (hI : RuI L) (h30 : L 24 7 ≤ 30) {to : Int} {n : Nat} (hn : to + n = L 24 7) (h0 : 0 ≤ to) : ∀ m f, to ≤ m → m < L 24 7 → 1 ≤ f → f ≤ 5 → FQ 1500 ((swp n (L 24 7 - 1) A) 16 (5 * m + f - 1)) (nk L m f + rsT L m f) ∧ 0 ≤ (swp n (L 24 7 - 1) A) 16 (5 * m + f - 1) ∧ (swp n (L 24 7 - 1) A) 16 (5 * m + f - 1) ≤ 1100000 := by
  intro m f q1 q2 f1 f2
  obtain ⟨a, b, c⟩ := id h
  have sb := h.swB h0
  rw [a.1] at sb
  have bd := swp_bd n (L 24 7 - 1) to A sb (by omega) m f q1 (by omega) f1 f2
  have := sw_fq (L := L) (A := A) (R := rsT L) (lo := to) (fr := L 24 7 - 1) (K := 0) (n := n) (by omega) h0 a.1 (by omega) (by omega) (by omega) (fun m f q1 q2 f1 f2 => (b m f (by omega) (by omega) f1 f2).1) (fun m f g q1 q2 q3 f1 f2 g1 g2 => (c m f g (by omega) q3 f1 f2 g1 g2).1) (fun m g g1 g2 q1 q2 => (rsT_rng hI (by omega) g1 g2).1) (fun m f q1 q2 f1 f2 => rsT_s (by omega)) (fun q => by omega) (by omega) (L 24 7 - 1 - m).toNat m q1 (by omega) f f1 f2
  exact ⟨this.1.mono (by omega), bd⟩
theorem FdB_of (h : LdF L A) (hI : RuI L) (h30 : L 24 7 ≤ 30) (hT : TOk L) {n : Nat} (hn : L 24 11 + L 24 12 + n = L 24 7) : FdB (swp n (L 24 7 - 1) A) ∧ FdT (swp n (L 24 7 - 1) A) := by
  obtain ⟨t1, t2, t3, t4⟩ := id hT
  obtain ⟨⟨a6, a789⟩, b, c⟩ := id h
  obtain ⟨a7, a8, a9⟩ := a789 t1
  have sp := swp_spec n (L 24 7 - 1) A
  have o : ∀ j, (swp n (L 24 7 - 1) A) 13 j = A 13 j := fun j => sp.2 13 j (by omega)
  have tf := tail_fq h hI h30 hn (by omega)
  unfold FdB FdT
  rw [o, o, o, o, a6, a7, a8, a9]
  refine ⟨⟨fun m f q1 q2 f1 f2 => ?_, fun m y q1 q2 y1 y2 => ?_, fun q g g1 g2 => ?_⟩, by omega, by omega, by omega, by omega, by omega⟩
  · rw [sp.2 14 _ (by omega)]; exact (b m f q1 q2 f1 f2).2
  · rw [sp.2 15 _ (by omega)]
    have := c m ((y - 1) / 5 + 1) ((y - 1) % 5 + 1) q1 q2 (by omega) (by omega) (by omega) (by omega)
    rw [show 25 * m + 5 * ((y - 1) / 5 + 1) + ((y - 1) % 5 + 1) - 6 = 25 * m + y - 1 by omega] at this
    exact this.2
  · have := tf (L 24 11 + L 24 12) g (by omega) q g1 g2
    omega
theorem FN.fold (h : LdF L A) (hI : RuI L) (h30 : L 24 7 ≤ 30) (hT : TOk L) {n : Nat} (hn : L 24 11 + L 24 12 + n = L 24 7) {A2 : Mm} (hF : FdF (swp n (L 24 7 - 1) A) A2) : FN L A2 ∧ ∀ m f, L 24 11 + L 24 12 ≤ m → m < L 24 7 → 1 ≤ f → f ≤ 5 → FQ 1500 (A2 16 (5 * m + f - 1)) (nk L m f + rsT L m f) ∧ 0 ≤ A2 16 (5 * m + f - 1) ∧ A2 16 (5 * m + f - 1) ≤ 1100000 := by
  obtain ⟨t1, t2, t3, t4⟩ := id hT
  obtain ⟨⟨a6, a789⟩, b, c⟩ := id h
  obtain ⟨a7, a8, a9⟩ := a789 t1
  have sp := swp_spec n (L 24 7 - 1) A
  have o : ∀ j, (swp n (L 24 7 - 1) A) 13 j = A 13 j := fun j => sp.2 13 j (by omega)
  have tf := tail_fq h hI h30 hn (by omega)
  obtain ⟨fb, ft⟩ := FdB_of h hI h30 hT hn
  have cbd := fun f f1 f2 => cbV_bd fb ft (f := f) f1 f2
  have cq : ∀ f, 1 ≤ f → f ≤ 5 → FQ 1525 (cbV (swp n (L 24 7 - 1) A) (L 24 11 + L 24 12 - 1) f) (rsT L (L 24 11 + L 24 12 - 1) f) := by
    intro f f1 f2
    rw [rsT_s (by omega)]
    by_cases q : L 24 11 + L 24 12 - 1 + 1 < L 24 7
    · rw [if_pos q]
      refine cb_fq (K := 1500) (by rw [o, a6]; exact q) (by omega) (by omega) (fun g g1 g2 => by rw [sp.2 15 _ (by omega)]; exact (c _ f g (by omega) q f1 f2 g1 g2).1) (fun g g1 g2 => ⟨(tf _ g (by omega) q g1 g2).1, (rsT_rng hI (by omega) g1 g2).1⟩)
    · rw [if_neg q]
      unfold cbV
      rw [if_neg (by rw [o, a6]; exact q)]
      left; omega
  unfold FdF at hF
  rw [o, o, o, a7, a8, a9] at hF
  rw [o, o, a8, a9] at cbd
  obtain ⟨f1, f2, f3⟩ := hF
  have s14 : ∀ j, (swp n (L 24 7 - 1) A) 14 j = A 14 j := fun j => sp.2 14 j (by omega)
  have s15 : ∀ j, (swp n (L 24 7 - 1) A) 15 j = A 15 j := fun j => sp.2 15 j (by omega)
  have g13 : ∀ j, A2 13 j = A 13 j := fun j => by rw [f3 13 j (by omega) (by omega)]; exact o j
  have y2 : ∀ u f g, 0 ≤ u → u + 1 < L 24 12 → 1 ≤ f → f ≤ 5 → 1 ≤ g → g ≤ 5 → A2 15 (25 * (L 24 10 + u) + 5 * f + g - 6) = A 15 (25 * (L 24 10 + u) + 5 * f + g - 6) + A 15 (25 * (L 24 11 + u) + 5 * f + g - 6) := fun u f g q1 q2 e1 e2 g1 g2 => by
    have := f2 u (5 * f + g - 5) q1 q2 (by omega) (by omega)
    rw [show 25 * (L 24 10 + u) + (5 * f + g - 5) - 1 = 25 * (L 24 10 + u) + 5 * f + g - 6 by omega, show 25 * (L 24 11 + u) + (5 * f + g - 5) - 1 = 25 * (L 24 11 + u) + 5 * f + g - 6 by omega, s15, s15] at this
    exact this
  refine ⟨⟨⟨by rw [g13]; exact a6, fun _ => by rw [g13, g13, g13]; exact ⟨a7, a8, a9⟩⟩, fun m f q1 q2 e1 e2 q => ?_, fun u f q1 q2 e1 e2 => ?_, fun m f g q1 q2 e1 e2 g1 g2 q => ?_, fun u f g q1 q2 e1 e2 g1 g2 => ?_, fun m f q1 q2 e1 e2 => ?_, fun m f g q1 q2 e1 e2 g1 g2 => ?_⟩, fun m f q1 q2 e1 e2 => ?_⟩
  · rw [f3 14 _ (by omega) (by omega), s14]; exact (b m f q1 q2 e1 e2).1
  · rw [f1 u f q1 q2 e1 e2, s14, s14]
    have x1 := (b (L 24 10 + u) f (by omega) (by omega) e1 e2).1
    have x2 := (b (L 24 11 + u) f (by omega) (by omega) e1 e2).1
    have x12 := FQ.add (by omega) (by omega) x1 x2
    by_cases q : u = L 24 12 - 1
    · rw [if_pos q, if_pos q, if_pos q]
      exact (FQ.add (by omega) (by omega) x12 (cq f e1 e2)).mono (by omega)
    · rw [if_neg q, if_neg q, if_neg q, Int.add_zero, Int.add_zero]
      exact x12.mono (by omega)
  · rw [f3 15 _ (by omega) (by omega), s15]; exact (c m f g q1 q2 e1 e2 g1 g2).1
  · rw [y2 u f g q1 q2 e1 e2 g1 g2]
    exact FQ.add (by omega) (by omega) (c (L 24 10 + u) f g (by omega) (by omega) e1 e2 g1 g2).1 (c (L 24 11 + u) f g (by omega) (by omega) e1 e2 g1 g2).1
  · by_cases q : L 24 10 ≤ m ∧ m < L 24 10 + L 24 12
    · have e := f1 (m - L 24 10) f (by omega) (by omega) e1 e2
      rw [show L 24 10 + (m - L 24 10) = m by omega, s14, s14] at e
      have x1 := (b m f (by omega) (by omega) e1 e2).2
      have x2 := (b (L 24 11 + (m - L 24 10)) f (by omega) (by omega) e1 e2).2
      have x3 := cbd f e1 e2
      rw [e]
      split <;> omega
    · rw [f3 14 _ (by omega) (by omega), s14]
      have := (b m f q1 q2 e1 e2).2
      omega
  · by_cases q : L 24 10 ≤ m ∧ m + 1 < L 24 10 + L 24 12
    · have e := y2 (m - L 24 10) f g (by omega) (by omega) e1 e2 g1 g2
      rw [show L 24 10 + (m - L 24 10) = m by omega] at e
      have x1 := (c m f g (by omega) (by omega) e1 e2 g1 g2).2
      have x2 := (c (L 24 11 + (m - L 24 10)) f g (by omega) (by omega) e1 e2 g1 g2).2
      rw [e]; omega
    · rw [f3 15 _ (by omega) (by omega), s15]
      have := (c m f g q1 q2 e1 e2 g1 g2).2
      omega
  · rw [f3 16 _ (by omega) (by omega)]
    exact tf m f q1 q2 e1 e2
theorem lc_an' (h : LcP L A) (hI : RuI L) (ht : L 24 12 = 0 ∨ TOk L) (h0 : 0 ≤ L 24 7) : anV A = lrV L ∧ (lrV L = -9 ∨ (0 ≤ lrV L ∧ lrV L ≤ 10000)) := by
  have hi : 0 < L 24 12 → 0 ≤ L 24 10 := fun q => by
    rcases ht with ht | ht
    · omega
    · exact ht.2.1
  obtain ⟨hF, hA⟩ := h
  unfold anV lrV
  rw [hF.1.1]
  by_cases hz : L 24 7 = 0
  · rw [if_pos hz, if_pos hz]; omega
  · rw [if_neg hz, if_neg hz]
    have fq : FQ 10000 (c5 (fun e => A 16 (e - 1))) (tot L) := by
      unfold tot
      refine fq_min (by omega) (fun e e1 e2 => ?_)
      have a := (hA 0 e (by omega) (by omega) (fun q => Or.inl (hi q)) e1 e2).1
      rw [show 5 * 0 + e - 1 = e - 1 by omega] at a
      have ea : (if 0 < L 24 12 ∧ 0 ≤ L 24 10 then rsH L 0 e else rsT L 0 e) = A0 L e := by
        unfold A0
        by_cases q : 0 < L 24 12
        · rw [if_pos ⟨q, hi q⟩, if_pos q]
        · rw [if_neg (fun z => q z.1), if_neg q]
      rw [ea] at a
      unfold nk at a
      unfold stC
      by_cases q : okM L 0 e
      · rw [if_pos q] at a ⊢; exact a
      · have a0 : 0 ≤ A0 L e := by
          unfold A0
          rcases ht with ht | ht
          · rw [if_neg (by omega)]; exact (rsT_rng hI (by omega) e1 e2).1
          · rw [if_pos ht.1]; exact (rsH_rng hI ht ht.2.1 e1 e2).1
        rw [if_neg q] at a ⊢
        clear hA ea
        unfold FQ at a ⊢
        omega
    unfold FQ at fq
    split <;> split <;> omega
theorem lc_an (h : LcP L A) (hI : RuI L) (ht : L 24 12 = 0 ∨ TOk L) (h0 : 0 ≤ L 24 7) : anV A = lrV L := (lc_an' h hI ht h0).1
end Lc
