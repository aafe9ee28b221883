/-! ===== a row without a tie ===== -/
section Pl
variable {L A : Mm} {c : Int}
/-- behind a swept note, against the reference's rest -/
theorem swp_rest (h7 : L 24 7 = c) (h6 : A 13 6 = c) (hc1 : c ≤ 30) (hg : ∀ m e g, 0 ≤ m → m + 1 < c → 1 ≤ e → e ≤ 5 → 1 ≤ g → g ≤ 5 → FQ 45 (A 15 (25 * m + 5 * e + g - 6) + A 14 (5 * (m + 1) + g - 1)) (goM L m e g)) {n : Nat} (hn : (n : Int) ≤ c) {m e : Int} (hm0 : c - n ≤ m) (hm1 : m < c) (e1 : 1 ≤ e) (e2 : e ≤ 5) : FQ (45 * 30) (cbV (swp n (c - 1) A) m e) (rsT L m e) := by
  have sp := swp_spec n (c - 1) A
  have f6 : (swp n (c - 1) A) 13 6 = c := by rw [sp.2 13 6 (by omega)]; exact h6
  have fb := fq_back (w := goM L) (T := fun _ => 0) (e := c - 1) (lo := c - n) (K := 0) (by omega) (by omega) (by omega) (by omega) (B := cbV (swp n (c - 1) A)) (S := fun _ _ => 0) (Nn := fun m g => A 14 (5 * m + g - 1)) (St := fun m e g => A 15 (25 * m + 5 * e + g - 6))
    (fun f f1 f2 => by unfold cbV; rw [f6, if_neg (by omega)]; left; omega)
    (fun m f q1 q2 f1 f2 => by
      have ee : cbV (swp n (c - 1) A) m f = c5 (fun g => (swp n (c - 1) A) 15 (25 * m + 5 * f + g - 6) + (swp n (c - 1) A) 16 (5 * (m + 1) + g - 1)) := by
        unfold cbV; rw [f6, if_pos (by omega)]
      rw [ee]
      refine c5_congr (fun g g1 g2 => ?_)
      rw [sp.2 15 _ (by omega), sp.1 (m + 1) g (by omega) (by omega) g1 g2])
    (fun m f g q1 q2 f1 f2 g1 g2 => hg m f g (by omega) (by omega) f1 f2 g1 g2)
    (c - 1 - m).toNat m hm0 (by omega) e e1 e2
  unfold rsT
  rw [h7]
  exact fb.mono (by omega)
theorem an_plain (h7 : L 24 7 = c) (h12 : L 24 12 = 0) (h6 : A 13 6 = c) (hc0 : 0 ≤ c) (hc1 : c ≤ 30) (hn : 0 < c → ∀ e, 1 ≤ e → e ≤ 5 → FQ 20 (A 14 (5 * 0 + e - 1)) (if okM L 0 e then ncM L 0 e else 1000000)) (hg : ∀ m e g, 0 ≤ m → m + 1 < c → 1 ≤ e → e ≤ 5 → 1 ≤ g → g ≤ 5 → FQ 45 (A 15 (25 * m + 5 * e + g - 6) + A 14 (5 * (m + 1) + g - 1)) (goM L m e g)) : anV (swp c.toNat (c - 1) A) = lrV L := by
  have sp := swp_spec c.toNat (c - 1) A
  have f6 : (swp c.toNat (c - 1) A) 13 6 = c := by rw [sp.2 13 6 (by omega)]; exact h6
  unfold anV lrV
  rw [f6, h7]
  by_cases hz : c = 0
  · rw [if_pos hz, if_pos hz]
  · rw [if_neg hz, if_neg hz]
    have fq : FQ (20 + 45 * 30) (c5 (fun e => (swp c.toNat (c - 1) A) 16 (e - 1))) (tot L) := by
      unfold tot
      refine fq_min (by omega) (fun e e1 e2 => ?_)
      have r := swp_rest h7 h6 hc1 hg (n := c.toNat) (by omega) (m := 0) (e := e) (by omega) (by omega) e1 e2
      have nn := hn (by omega) e e1 e2
      have s := sp.1 0 e (by omega) (by omega) e1 e2
      rw [show 5 * 0 + e - 1 = e - 1 by omega] at s nn
      rw [s]
      have ea : A0 L e = rsT L 0 e := by unfold A0; rw [h12, if_neg (by omega)]
      unfold stC
      rw [ea]
      by_cases q : okM L 0 e
      · rw [if_pos q] at nn ⊢
        exact FQ.add (by omega) (by omega) nn r
      · rw [if_neg q] at nn
        simp only [if_neg q]
        have r0 : 0 ≤ cbV (swp c.toNat (c - 1) A) 0 e := by clear s nn; unfold FQ at r; omega
        have n0 : 100000 ≤ A 14 (e - 1) := by clear s r r0; unfold FQ at nn; omega
        exact Or.inr ⟨by omega, by omega⟩
    unfold FQ at fq
    split <;> split <;> omega
end Pl
