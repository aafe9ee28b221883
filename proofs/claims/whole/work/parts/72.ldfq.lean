/-! ===== what is loaded is what the reference lays out ===== -/
/-- laid out, note x (if it is one) with finger f only -/
def LX (M : Mm) (h x f : Int) : Mm := if x = -9 then LM M h else mset (LM M h) 32 x (shlI 1 f)
section Lx
variable {M : Mm} {h x f : Int}
theorem LX_o (c : Nat) (hc : c ≠ 32) : LX M h x f c = LM M h c := by
  unfold LX
  split
  · rfl
  · funext j; exact mset_ne (by omega)
theorem LX_ok (hf : x ≠ -9 → isF f) (hh : isH h) (hK : KyI M) {m e : Int} (h0 : 0 ≤ m) (h1 : m < cnt (fK M h) 30) (e1 : 1 ≤ e) (e2 : e ≤ 5) : okM (LX M h x f) m e ↔ (onlV M h x f m = -9 ∨ onlV M h x f m = e) := by
  have no := nmo_ok h0 h1
  have ky := hK (30 * h + nmo (fK M h) m 30) (by omega) (by omega)
  have base : okc (LM M h 32 m) e ↔ (M 26 (30 * h + nmo (fK M h) m 30) = -9 ∨ M 26 (30 * h + nmo (fK M h) m 30) = e) := by
    rw [LM_32]; exact cod_ok ky.2.1 e1 e2
  unfold onlV LX
  by_cases hx : x = -9
  · rw [if_pos hx, if_neg (by omega)]; exact base
  · rw [if_neg hx]
    have hf' := hf hx
    by_cases hm : m = x
    · subst hm
      rw [if_pos rfl]
      show okc (mset (LM M h) 32 m (shlI 1 f) 32 m) e ↔ _
      rw [mset_eq]
      have := cod_ok (m := f) (Or.inr hf') e1 e2
      unfold cod at this
      rw [if_neg (by omega)] at this
      exact this
    · rw [if_neg hm]
      show okc (mset (LM M h) 32 x (shlI 1 f) 32 m) e ↔ _
      rw [mset_ne (by omega)]
      exact base
variable {b : Nat} {A : Mm}
theorem ld_note (hL : Ld h x f b M A) (hR : RuI M) (hf : x ≠ -9 → isF f) (hh : isH h) (hK : KyI M) {m e : Int} (h0 : 0 ≤ m) (h1 : m < cnt (fK M h) 30) (e1 : 1 ≤ e) (e2 : e ≤ 5) : FQ 20 (A 14 (5 * m + e - 1)) (if okM (LX M h x f) m e then ncM (LX M h x f) m e else 1000000) := by
  have ok := LX_ok (x := x) (f := f) hf hh hK h0 h1 e1 e2
  rw [hL.1.1 m e h0 h1 e1 e2]
  have en : ncM (LX M h x f) m e = ncv (M 30) (kyF M h m) e := by
    show ncv (LX M h x f 30) (LX M h x f 31 m) e = _
    rw [LX_o 30 (by omega), LX_o 31 (by omega), LM_o 30 (by omega), LM_31]
  have nr := ncv_rng hR (kyF M h m) e
  unfold lnV
  by_cases q : onlV M h x f m = -9 ∨ onlV M h x f m = e
  · rw [if_pos q, if_pos (ok.mpr q), en]; left; omega
  · rw [if_neg q, if_neg (fun z => q (ok.mp z))]; right; omega
theorem ld_step (hL : Ld h x f b M A) (hR : RuI M) {m e g : Int} (h0 : 0 ≤ m) (h1 : m + 1 < cnt (fK M h) 30) (e1 : 1 ≤ e) (e2 : e ≤ 5) (g1 : 1 ≤ g) (g2 : g ≤ 5) : FQ 25 (A 15 (25 * m + 5 * e + g - 6)) (stM (LX M h x f) m e g) := by
  rw [hL.1.2 m e g h0 (by omega) h1 e1 e2 g1 g2]
  have es : stM (LX M h x f) m e g = stv (M 30) (M 27) (M 28) (M 29) h (kyF M h m) e (kyF M h (m + 1)) g := by
    show stv (LX M h x f 30) (LX M h x f 27) (LX M h x f 28) (LX M h x f 29) (LX M h x f 24 6) (LX M h x f 31 m) e (LX M h x f 31 (m + 1)) g = _
    rw [LX_o 30 (by omega), LX_o 27 (by omega), LX_o 28 (by omega), LX_o 29 (by omega), LX_o 24 (by omega), LX_o 31 (by omega), LM_o 30 (by omega), LM_o 27 (by omega), LM_o 28 (by omega), LM_o 29 (by omega), LM_6, LM_31, LM_31]
  have sr := stv_rng hR (hand := h) (a := kyF M h m) (b := kyF M h (m + 1)) e1 e2 g1 g2
  rw [es]
  unfold lsV
  split
  · right; omega
  · left; omega
theorem ld_go (hL : Ld h x f b M A) (hR : RuI M) (hf : x ≠ -9 → isF f) (hh : isH h) (hK : KyI M) {m e g : Int} (h0 : 0 ≤ m) (h1 : m + 1 < cnt (fK M h) 30) (e1 : 1 ≤ e) (e2 : e ≤ 5) (g1 : 1 ≤ g) (g2 : g ≤ 5) : FQ 45 (A 15 (25 * m + 5 * e + g - 6) + A 14 (5 * (m + 1) + g - 1)) (goM (LX M h x f) m e g) := by
  have s := ld_step hL hR h0 h1 e1 e2 g1 g2
  have n := ld_note hL hR hf hh hK (m := m + 1) (by omega) h1 g1 g2
  unfold goM
  by_cases q : okM (LX M h x f) (m + 1) g
  · rw [if_pos q] at n ⊢
    exact FQ.add (by omega) (by omega) s n
  · rw [if_neg q] at n ⊢
    unfold FQ at *
    omega
end Lx
