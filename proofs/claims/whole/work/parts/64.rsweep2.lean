/-! ===== the class: sweep, answerOfTable ===== -/
def swV (M : Mm) (m f : Int) : Int := M 14 (5 * m + f - 1) + cbV M m f
def sw1 (M : Mm) (m : Int) : Mm := wr M 16 (5 * m - 1) (swV M m) 5
/-- n notes swept, from note m down -/
def swp : Nat → Int → Mm → Mm
  | 0, _, M => M
  | n + 1, m, M => swp n (m - 1) (sw1 M m)
/-- costs are small where a sweep looks -/
def SwB (M : Mm) (fr to : Int) : Prop := (∀ m f, to ≤ m → m ≤ fr → 1 ≤ f → f ≤ 5 → 0 ≤ M 14 (5 * m + f - 1) ∧ M 14 (5 * m + f - 1) ≤ 1000000) ∧ (∀ m f g, to ≤ m → m ≤ fr → m + 1 < M 13 6 → 1 ≤ f → f ≤ 5 → 1 ≤ g → g ≤ 5 → 0 ≤ M 15 (25 * m + 5 * f + g - 6) ∧ M 15 (25 * m + 5 * f + g - 6) ≤ 1000000) ∧ (fr + 1 < M 13 6 → ∀ g, 1 ≤ g → g ≤ 5 → 0 ≤ M 16 (5 * (fr + 1) + g - 1) ∧ M 16 (5 * (fr + 1) + g - 1) ≤ 2000000)
section Rw
variable {N : Nat} {M : Mm}
theorem cbV_congr {A : Mm} {m f : Int} (h6 : A 13 6 = M 13 6) (h15 : ∀ j, A 15 j = M 15 j) (h16 : ∀ g, 1 ≤ g → g ≤ 5 → A 16 (5 * (m + 1) + g - 1) = M 16 (5 * (m + 1) + g - 1)) : cbV A m f = cbV M m f := by
  unfold cbV
  rw [h6]
  split
  · exact c5_congr (fun g g1 g2 => by show A 15 _ + A 16 _ = _; rw [h15, h16 g g1 g2])
  · rfl
theorem cbV_rng {fr to m f : Int} (hB : SwB M fr to) (hm : m = fr) (ht : to ≤ m) (hf0 : 1 ≤ f) (hf1 : f ≤ 5) : 0 ≤ cbV M m f ∧ cbV M m f ≤ 100000 := by
  subst hm
  unfold cbV
  split
  · rename_i q
    exact c5_rng (fun g g1 g2 => by
      have a := hB.2.1 m f g ht (Int.le_refl _) q hf0 hf1 g1 g2
      have b := hB.2.2 q g g1 g2
      show 0 ≤ M 15 _ + M 16 _
      omega)
  · omega
theorem SwB.step {fr to : Int} (hB : SwB M fr to) (ht : to ≤ fr) : SwB (sw1 M fr) (fr - 1) to := by
  have f14 : ∀ j, (sw1 M fr) 14 j = M 14 j := fun j => wr_ne (by omega)
  have f15 : ∀ j, (sw1 M fr) 15 j = M 15 j := fun j => wr_ne (by omega)
  have f6 : (sw1 M fr) 13 6 = M 13 6 := wr_ne (by omega)
  unfold SwB
  rw [f6]
  refine ⟨fun m f a b c d => by rw [f14]; exact hB.1 m f a (by omega) c d, fun m f g a b c d e u v => by rw [f15]; exact hB.2.1 m f g a (by omega) c d e u v, fun q g g1 g2 => ?_⟩
  rw [show 5 * (fr - 1 + 1) + g - 1 = (5 * fr - 1) + g by omega]
  have e : (sw1 M fr) 16 ((5 * fr - 1) + g) = swV M fr g := wr_eq g1 g2
  rw [e]
  have a := hB.1 fr g ht (Int.le_refl _) g1 g2
  have b := cbV_rng hB rfl ht g1 g2
  unfold swV
  omega
theorem t_sweep_in {fr to : Int} {Φ : Option Vl → Ly → Mm → Prop} {x : Int} (hB : SwB M fr to) (ht : to ≤ fr) (h0 : 0 ≤ to) (h1 : fr < 30) (h6 : M 13 6 ≤ 30)
    (kk : AJ 3 0 0 mR_sweep Φ 0 0 56 [some (.inr 13), some (.inl x), some (.inl to), some (.inl fr)] [] (S0 N) (sw1 M fr)) : ∀ (n i : Nat) (L5 : Option Vl), i + n = 5 → AJ 3 0 0 mR_sweep Φ 0 0 10 [some (.inr 13), some (.inl x), some (.inl to), some (.inl fr), some (.inl i), L5] [] (S0 N) (wr M 16 (5 * fr - 1) (swV M fr) i) := by
  intro n
  induction n with
  | zero =>
    intro i L5 hi
    have : i = 5 := by omega
    subst this
    refine aR_sweep [56] 30 (fun hM => ?_)
    exact ⟨by decide, AJ.wk kk ⟨rfl, rfl, rfl, rfl, trivial⟩⟩
  | succ n ih =>
    intro i L5 hi
    have f6 : (wr M 16 (5 * fr - 1) (swV M fr) i) 13 6 = M 13 6 := wr_ne (by omega)
    have f14 : ∀ j, (wr M 16 (5 * fr - 1) (swV M fr) i) 14 j = M 14 j := fun j => wr_ne (by omega)
    have f15 : ∀ j, (wr M 16 (5 * fr - 1) (swV M fr) i) 15 j = M 15 j := fun j => wr_ne (by omega)
    have f16 : ∀ g, 1 ≤ g → g ≤ 5 → (wr M 16 (5 * fr - 1) (swV M fr) i) 16 (5 * (fr + 1) + g - 1) = M 16 (5 * (fr + 1) + g - 1) := fun g g1 g2 => wr_ne (by omega)
    have ec : cbV (wr M 16 (5 * fr - 1) (swV M fr) i) fr ((i : Int) + 1) = cbV M fr ((i : Int) + 1) := cbV_congr f6 f15 f16
    have cr := cbV_rng hB rfl ht (show (1 : Int) ≤ (i : Int) + 1 by omega) (by omega)
    have nr := hB.1 fr ((i : Int) + 1) ht (Int.le_refl _) (by omega) (by omega)
    have C := t_costBehind (N := N) (M := wr M 16 (5 * fr - 1) (swV M fr) i) (m := fr) (f := i) (by omega) (by omega) (by omega) (by omega) (by omega) (fun q g g1 g2 => by
      rw [f6] at q
      rw [f15, f16 g g1 g2]
      have a := hB.2.1 fr ((i : Int) + 1) g ht (Int.le_refl _) q (by omega) (by omega) g1 g2
      have b := hB.2.2 q g g1 g2
      omega)
    rw [ec] at C
    have e14 : (wr M 16 (5 * fr - 1) (swV M fr) i) 14 (fr * 5 + i) = M 14 (5 * fr + ((i : Int) + 1) - 1) := by rw [f14, show fr * 5 + (i : Int) = 5 * fr + ((i : Int) + 1) - 1 by omega]
    have h2 := fun L5 => ih (i + 1) L5 (by omega)
    rw [show ((i + 1 : Nat) : Int) = (i : Int) + 1 by omega] at h2
    refine aR_sweep [10] 40 (fun hM => ?_)
    refine ⟨by omega, ite_i (fun _ => ?_) (fun q => by omega)⟩
    refine CL.pu (t_at (n := 150) rfl (by omega) (by omega) (Nat.le_of_ble_eq_true rfl)) (Nat.le_of_ble_eq_true rfl) (CL.pu C (Nat.le_of_ble_eq_true rfl) ?_)
    rw [e14]
    refine CL.vo (t_store (n := 150) rfl (by decide) (by omega) (by omega) (Nat.le_of_ble_eq_true rfl) (by omega)) (Nat.le_of_ble_eq_true rfl) (fun hM2 => ?_)
    rw [show fr * 5 + (i : Int) = (5 * fr - 1) + ((i : Int) + 1) by omega, wr_step (by omega) (show M 14 (5 * fr + ((i : Int) + 1) - 1) + cbV M fr ((i : Int) + 1) = swV M fr ((i : Int) + 1) from rfl)]
    exact h2 _
theorem t_sweep_loop {x to : Int} {Φ : Option Vl → Ly → Mm → Prop} (h0 : 0 ≤ to) : ∀ (n : Nat) (fr : Int) (M : Mm), fr + 1 = to + n → fr < 30 → M 13 6 ≤ 30 → SwB M fr to → Φ none (S0 N) (swp n fr M) → AJ 3 0 0 mR_sweep Φ 0 0 2 [some (.inr 13), some (.inl x), some (.inl to), some (.inl fr)] [] (S0 N) M := by
  intro n
  induction n with
  | zero =>
    intro fr M hn h1 h6 hB kk
    refine aR_sweep [] 30 (fun hM => ?_)
    exact ⟨by omega, ite_i (fun _ => kk) (fun q => by omega)⟩
  | succ n ih =>
    intro fr M hn h1 h6 hB kk
    have f6 : (sw1 M fr) 13 6 = M 13 6 := wr_ne (by omega)
    have h2 := ih (fr - 1) (sw1 M fr) (by omega) (by omega) (by omega) (hB.step (by omega)) kk
    have k56 : AJ 3 0 0 mR_sweep Φ 0 0 56 [some (.inr 13), some (.inl x), some (.inl to), some (.inl fr)] [] (S0 N) (sw1 M fr) := by
      refine aR_sweep [2] 30 (fun hM => ?_)
      exact h2
    have k10 := t_sweep_in hB (by omega) h0 h1 h6 k56 5 0 none (by omega)
    rw [show ((0 : Nat) : Int) = 0 from rfl, wr_0] at k10
    refine aR_sweep [10] 30 (fun hM => ?_)
    refine ⟨by omega, ite_i (fun q => by omega) (fun _ => ?_)⟩
    exact AJ.wk k10 ⟨rfl, rfl, rfl, rfl, rfl, trivial⟩
theorem t_sweep {fr to : Int} (h0 : 0 ≤ to) (h1 : fr < 30) (ht : to ≤ fr + 1) (h6 : M 13 6 ≤ 30) (hB : SwB M fr to) : Ret 3 0 0 mR_sweep [.inr 13, .inl fr, .inl to] (S0 N) M (Vo (S0 N) (swp (fr + 1 - to).toNat fr M)) := by
  refine eR_sweep [2] 30 (Nat.le_of_ble_eq_true rfl) (fun hM => ?_)
  exact t_sweep_loop h0 (fr + 1 - to).toNat fr M (by omega) h1 h6 hB (vo_eq rfl)
def anV (M : Mm) : Int := if M 13 6 = 0 then 0 else if c5 (fun f => M 16 (f - 1)) < 100000 then c5 (fun f => M 16 (f - 1)) else -9
theorem t_answerOfTable (hT : M 13 6 ≠ 0 → ∀ f, 1 ≤ f → f ≤ 5 → 0 ≤ M 16 (f - 1) ∧ M 16 (f - 1) ≤ 2000000) : Ret 1 0 0 mR_answerOfTable [.inr 13] (S0 N) M (Pu (S0 N) M (anV M)) := by
  have loop : M 13 6 ≠ 0 → ∀ (n : Nat) (g l : Int), g + n = 5 → 0 ≤ g → 0 ≤ l → l ≤ 100000 → cmf (fun f => M 16 (f - 1)) n (g + 1) l = c5 (fun f => M 16 (f - 1)) → AJ 1 0 0 mR_answerOfTable (Pu (S0 N) M (anV M)) 0 0 14 [some (.inr 13), some (.inl l), some (.inl g)] [] (S0 N) M := by
    intro hn n
    induction n with
    | zero =>
      intro g l hg g0 l0 l1 e
      have : g = 5 := by omega
      subst this
      have e' : l = c5 (fun f => M 16 (f - 1)) := e
      refine aR_answerOfTable [] 40 (fun hM => ?_)
      refine ⟨by decide, by omega, ite_i (fun q => ?_) (fun q => ?_)⟩
      · exact pu_eq (by unfold anV; rw [if_neg hn, ← e', if_pos q])
      · exact pu_eq (by unfold anV; rw [if_neg hn, ← e', if_neg q])
    | succ n ih =>
      intro g l hg g0 l0 l1 e
      have t := hT hn (g + 1) (by omega) (by omega)
      rw [show g + 1 - 1 = g by omega] at t
      have e' : cmf (fun f => M 16 (f - 1)) n (g + 1 + 1) (min l (M 16 (g + 1 - 1))) = c5 (fun f => M 16 (f - 1)) := e
      rw [show g + 1 - 1 = g by omega] at e'
      refine aR_answerOfTable [14] 40 (fun hM => ?_)
      refine ⟨by omega, ite_i (fun _ => ?_) (fun q => by omega)⟩
      refine CL.pu (t_at (n := 150) rfl (by omega) (by omega) (Nat.le_of_ble_eq_true rfl)) (Nat.le_of_ble_eq_true rfl) ?_
      refine ⟨by omega, ?_⟩
      exact ih (g + 1) _ (by omega) (by omega) (by omega) (by omega) e'
  refine eR_answerOfTable [14] 40 (Nat.le_of_ble_eq_true rfl) (fun hM => ?_)
  refine ⟨hM _ _, ite_i (fun q => ?_) (fun q => ?_)⟩
  · exact pu_eq (by unfold anV; rw [if_pos q])
  · exact loop q 5 0 100000 (by omega) (by omega) (by omega) (by omega) rfl
end Rw
