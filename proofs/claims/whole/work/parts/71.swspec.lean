/-! ===== what a sweep leaves ===== -/
section Sws
variable {M : Mm}
theorem swp_spec : ∀ (n : Nat) (fr : Int) (M : Mm), (∀ m f, fr - n < m → m ≤ fr → 1 ≤ f → f ≤ 5 → (swp n fr M) 16 (5 * m + f - 1) = M 14 (5 * m + f - 1) + cbV (swp n fr M) m f) ∧ ∀ c j, ¬ (c = 16 ∧ 5 * (fr - n + 1) ≤ j ∧ j < 5 * (fr + 1)) → (swp n fr M) c j = M c j := by
  intro n
  induction n with
  | zero => intro fr M; exact ⟨fun m f q1 q2 => by omega, fun _ _ _ => rfl⟩
  | succ n ih =>
    intro fr M
    have h := ih (fr - 1) (sw1 M fr)
    have e : swp (n + 1) fr M = swp n (fr - 1) (sw1 M fr) := rfl
    rw [e]
    refine ⟨fun m f q1 q2 q3 q4 => ?_, fun c j hc => ?_⟩
    · by_cases hm : m = fr
      · subst hm
        rw [h.2 16 _ (by omega), show 5 * m + f - 1 = (5 * m - 1) + f by omega]
        have e1 : (sw1 M m) 16 ((5 * m - 1) + f) = swV M m f := wr_eq q3 q4
        rw [e1]
        unfold swV
        rw [show 5 * m - 1 + f = 5 * m + f - 1 by omega]
        have ec : cbV (swp n (m - 1) (sw1 M m)) m f = cbV M m f := cbV_congr (by rw [h.2 13 6 (by omega)]; exact wr_ne (by omega)) (fun j => by rw [h.2 15 j (by omega)]; exact wr_ne (by omega)) (fun g g1 g2 => by rw [h.2 16 _ (by omega)]; exact wr_ne (by omega))
        rw [ec]
      · have e1 : (sw1 M fr) 14 (5 * m + f - 1) = M 14 (5 * m + f - 1) := wr_ne (by omega)
        rw [h.1 m f (by omega) (by omega) q3 q4, e1]
    · rw [h.2 c j (by omega)]; exact wr_ne (by omega)
/-- a table of the class against a table of the reference, from place e back -/
theorem fq_back {w : Int → Int → Int → Int} {T : Int → Int} {e lo K : Int} (hK : 0 ≤ K) (hb : K + 45 * 30 < 100000) (he : e ≤ 29) (hlo : 0 ≤ lo) {B S Nn : Int → Int → Int} {St : Int → Int → Int → Int}
    (hT : ∀ f, 1 ≤ f → f ≤ 5 → FQ K (B e f) (T f))
    (hB : ∀ m f, lo ≤ m → m < e → 1 ≤ f → f ≤ 5 → B m f = c5 (fun g => St m f g + (Nn (m + 1) g + B (m + 1) g)))
    (hw : ∀ m f g, lo ≤ m → m < e → 1 ≤ f → f ≤ 5 → 1 ≤ g → g ≤ 5 → FQ 45 (St m f g + Nn (m + 1) g) (w m f g)) :
    ∀ (d : Nat) (m : Int), lo ≤ m → m + d = e → ∀ f, 1 ≤ f → f ≤ 5 → FQ (K + 45 * d) (B m f) (bz w e T m f) := by
  intro d
  induction d with
  | zero =>
    intro m hm hd f f1 f2
    have : m = e := by omega
    subst this
    rw [bz_e]
    exact (hT f f1 f2).mono (by omega)
  | succ d ih =>
    intro m hm hd f f1 f2
    rw [bz_s (by omega), hB m f hm (by omega) f1 f2]
    refine fq_min (by omega) (fun g g1 g2 => ?_)
    have h1 := ih (m + 1) (by omega) (by omega) g g1 g2
    have h2 := hw m f g hm (by omega) f1 f2 g1 g2
    have h3 := FQ.add (by omega) (by omega) h2 h1
    rw [show St m f g + Nn (m + 1) g + B (m + 1) g = St m f g + (Nn (m + 1) g + B (m + 1) g) by omega] at h3
    exact h3.mono (by omega)
end Sws
