/-! ===== the layout: the cells in the order in which they are made; 0 is the script ===== -/
def S0 (N : Nat) : Ly := [.inl N,
  .inr (4, [some (some 2), some (some 5), some (some 9), some (some 13), some (some 19)]),
  .inr (3, [some (some 3), some (some 4)]), .inl 7, .inl 30,
  .inr (0, [none, some (some 6), some (some 7), some (some 8), none, none, none, none]), .inl 30, .inl 30, .inl 30,
  .inr (0, [none, some (some 10), some (some 11), some (some 12), none, none, none, none]), .inl 30, .inl 30, .inl 30,
  .inr (2, [some (some 2), some (some 14), some (some 15), some (some 16), some (some 17), some (some 18), none, none, none, none]), .inl 150, .inl 750, .inl 150, .inl 5, .inl 30,
  .inr (1, [some (some 20), some (some 21), some (some 22), some (some 23), none]), .inl 6, .inl 6, .inl 6, .inl 6,
  .inr (5, [some (some 25), some (some 26), some (some 27), some (some 28), some (some 29), some (some 30), none, none, some (some 31), some (some 32), none, none, none, some (some 33), some (some 34), some (some 35), some (some 36), some (some 37), none, none, some (some 38), some (some 39), some (some 40), some (some 41), some (some 42), none, some (some 43), some (some 44), some (some 45), some (some 46)]),
  .inl 60, .inl 60, .inl 46, .inl 46, .inl 46, .inl 7, .inl 30, .inl 30, .inl 6, .inl 6, .inl 180, .inl 180, .inl 6, .inl 2, .inl 60, .inl 2, .inl 2, .inl 2, .inl 6, .inl 6, .inl 6, .inl 6]
/-- answers x, changes nothing -/
def Pu (S : Ly) (M : Mm) (x : Int) : Option Vl → Ly → Mm → Prop := fun r S' M' => r = some (.inl x) ∧ S' = S ∧ M' = M
/-- answers a cell -/
def Pa (S : Ly) (M : Mm) (a : Nat) : Option Vl → Ly → Mm → Prop := fun r S' M' => r = some (.inr a) ∧ S' = S ∧ M' = M
/-- answers nothing, the memory becomes M1 -/
def Vo (S : Ly) (M1 : Mm) : Option Vl → Ly → Mm → Prop := fun r S' M' => r = none ∧ S' = S ∧ M' = M1
def bi (p : Prop) [Decidable p] : Int := if p then 1 else 0
theorem bi_t {p : Prop} [Decidable p] (h : p) : bi p = 1 := if_pos h
theorem bi_f {p : Prop} [Decidable p] (h : ¬ p) : bi p = 0 := if_neg h
theorem R32_1 : R32 1 := by decide
theorem R32_0 : R32 0 := by decide
theorem CL.pu {d d' y : Nat} {as : List Vl} {S : Ly} {M : Mm} {x : Int} {K : Option Vl → Ly → Mm → Prop} (h : Ret d' 0 0 y as S M (Pu S M x)) (hd : d' + 1 ≤ d) (k : K (some (.inl x)) S M) : CL d y as S M K := ⟨d', _, hd, h, fun r S' M' q _ => by obtain ⟨rfl, rfl, rfl⟩ := q; exact k⟩
theorem CL.pa {d d' y : Nat} {as : List Vl} {S : Ly} {M : Mm} {a : Nat} {K : Option Vl → Ly → Mm → Prop} (h : Ret d' 0 0 y as S M (Pa S M a)) (hd : d' + 1 ≤ d) (k : K (some (.inr a)) S M) : CL d y as S M K := ⟨d', _, hd, h, fun r S' M' q _ => by obtain ⟨rfl, rfl, rfl⟩ := q; exact k⟩
theorem CL.vo {d d' y : Nat} {as : List Vl} {S : Ly} {M M1 : Mm} {K : Option Vl → Ly → Mm → Prop} (h : Ret d' 0 0 y as S M (Vo S M1)) (hd : d' + 1 ≤ d) (k : MOk M1 → K none S M1) : CL d y as S M K := ⟨d', _, hd, h, fun r S' M' q hM => by obtain ⟨rfl, rfl, rfl⟩ := q; exact k hM⟩
theorem CL.bl {d d' y : Nat} {as : List Vl} {S : Ly} {M : Mm} {p : Prop} [Decidable p] {K : Option Vl → Ly → Mm → Prop} (h : Ret d' 0 0 y as S M (Pu S M (bi p))) (hd : d' + 1 ≤ d) (k1 : p → K (some (.inl 1)) S M) (k2 : ¬ p → K (some (.inl 0)) S M) : CL d y as S M K := by
  refine CL.pu h hd ?_
  by_cases hp : p
  · rw [bi_t hp]; exact k1 hp
  · rw [bi_f hp]; exact k2 hp
theorem it1 {c : Prop} [Decidable c] {A B : Prop} (h : c) (a : A) : if c then A else B := by rw [if_pos h]; exact a
theorem it0 {c : Prop} [Decidable c] {A B : Prop} (h : ¬ c) (b : B) : if c then A else B := by rw [if_neg h]; exact b
theorem pu_eq {S : Ly} {M : Mm} {x y : Int} (h : x = y) : Pu S M y (some (.inl x)) S M := ⟨by rw [h], rfl, rfl⟩
theorem vo_eq {S : Ly} {M M1 : Mm} (h : M = M1) : Vo S M1 none S M := ⟨rfl, rfl, h⟩
theorem Ret.up {d mc ms y : Nat} {as : List Vl} {S : Ly} {M : Mm} {x x' : Int} (h : Ret d mc ms y as S M (Pu S M x)) (e : x = x') : Ret d mc ms y as S M (Pu S M x') := e ▸ h
theorem mset_eq (M : Mm) (a : Nat) (i x : Int) : mset M a i x a i = x := by simp [mset]
theorem mset_ne {M : Mm} {a k : Nat} {i j x : Int} (h : k ≠ a ∨ j ≠ i) : mset M a i x k j = M k j := by
  unfold mset
  rw [if_neg]
  rintro ⟨h1, h2⟩
  rcases h with h | h
  · exact h h1
  · exact h h2
/-! black keys -/
abbrev blk (k : Int) : Prop := k % 12 = 1 ∨ k % 12 = 3 ∨ k % 12 = 6 ∨ k % 12 = 8 ∨ k % 12 = 10
theorem remI_12 {x : Int} (h0 : 0 ≤ x) (h1 : x ≤ 1000) : remI x 12 = x % 12 := by
  have hx : R32 x := by constructor <;> omega
  unfold remI
  have e : Int32.ofInt x / Int32.ofInt 12 = Int32.ofInt (x / 12) := by
    rw [← Int32.toInt_inj, Int32.toInt_div_of_ne_right _ _ (by decide +kernel), i32_toInt hx, i32_toInt (by decide), i32_toInt (by constructor <;> omega)]
    exact Int.tdiv_eq_ediv_of_nonneg h0
  rw [e, ← Int32.ofInt_mul, ← Int32.ofInt_sub, i32_toInt (by constructor <;> omega)]
  omega
theorem blk_dec (k : Int) : (k % 12 = 1 ∨ k % 12 = 3 ∨ k % 12 = 6 ∨ k % 12 = 8 ∨ k % 12 = 10) = blk k := rfl
/-- fewer locals known -/
def subL : Lc → Lc → Prop
  | [], _ => True
  | none :: t, [] => subL t []
  | none :: t, _ :: u => subL t u
  | some _ :: _, [] => False
  | some v :: t, w :: u => some v = w ∧ subL t u
theorem subL_get : ∀ {L' L : Lc}, subL L' L → ∀ (i : Nat) (v : Vl), getL L' i = some v → getL L i = some v := by
  intro L'
  induction L' with
  | nil => intro L _ i v h; cases h
  | cons a t ih =>
    intro L h i v hi
    cases a with
    | none =>
      cases L with
      | nil => cases i with
        | zero => cases hi
        | succ i => exact absurd (ih (L := []) h i v hi) (by simp [getL])
      | cons b u => cases i with
        | zero => cases hi
        | succ i => exact ih (L := u) h i v hi
    | some w =>
      cases L with
      | nil => exact False.elim h
      | cons b u => cases i with
        | zero =>
          have h1 : w = v := by simpa [getL] using hi
          subst h1
          exact h.1.symm
        | succ i => exact ih (L := u) h.2 i v hi
theorem AJ.wk {d mc ms y : Nat} {Φ : Option Vl → Ly → Mm → Prop} {kc ks pc : Nat} {L L' : Lc} {st : List Vl} {S : Ly} {M : Mm} (h : AJ d mc ms y Φ kc ks pc L' st S M) (hs : subL L' L) : AJ d mc ms y Φ kc ks pc L st S M := by
  intro r hr l dC dI cA b0 b N xs p e s m args below meth c H locs ls C hW hS hz hL
  exact h r hr l dC dI cA b0 b N xs p e s m args below meth c H locs ls C hW hS hz ⟨hL.1, hL.2.1, fun i v hi => hL.2.2 i v (subL_get hs i v hi)⟩
