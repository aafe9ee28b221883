/-! ===== the reference's constructor ===== -/
theorem fl_0 {c : Nat} {v : Int} {M : Mm} : flM c v M 0 = M := by
  funext c' j; unfold flM; rw [if_neg (by omega)]
theorem fl_step {c : Nat} {v : Int} {M : Mm} {i : Nat} : mset (flM c v M i) c i v = flM c v M ((i : Int) + 1) := by
  funext c' j
  unfold mset flM
  by_cases q : c' = c ∧ j = (i : Int)
  · rw [if_pos q, if_pos (by omega)]
  · rw [if_neg q]
    by_cases q2 : c' = c ∧ 0 ≤ j ∧ j < i
    · rw [if_pos q2, if_pos (by omega)]
    · rw [if_neg q2, if_neg (by omega)]
theorem fl_two {v : Int} {M : Mm} {i : Nat} : mset (mset (flM 26 v (flM 25 v M i) i) 25 i v) 26 i v = flM 26 v (flM 25 v M ((i : Int) + 1)) ((i : Int) + 1) := by
  have e : mset (flM 26 v (flM 25 v M i) i) 25 i v = flM 26 v (mset (flM 25 v M i) 25 i v) i := by
    funext c' j
    unfold mset flM
    dsimp only
    by_cases q : c' = 25 ∧ j = (i : Int)
    · rw [if_pos q, if_neg (by omega), if_pos q]
    · rw [if_neg q, if_neg q]
  rw [e, fl_step, fl_step]
def YM0 (N : Nat) : Ly := [.inl N, .inr (4, [some (some 2), some (some 5), some (some 9), some (some 13), some (some 19)]), .inr (3, [some (some 3), some (some 4)]), .inl 7, .inl 30, .inr (0, [none, some (some 6), some (some 7), some (some 8), none, none, none, none]), .inl 30, .inl 30, .inl 30, .inr (0, [none, some (some 10), some (some 11), some (some 12), none, none, none, none]), .inl 30, .inl 30, .inl 30, .inr (2, [some (some 2), some (some 14), some (some 15), some (some 16), some (some 17), some (some 18), none, none, none, none]), .inl 150, .inl 750, .inl 150, .inl 5, .inl 30, .inr (1, [some (some 20), some (some 21), some (some 22), some (some 23), none]), .inl 6, .inl 6, .inl 6, .inl 6, .inr (5, [some none, some none, some none, some none, some none, some none, none, none, some none, some none, none, none, none, some none, some none, some none, some none, some none, none, none, some none, some none, some none, some none, some none, none, some none, some none, some none, some none])]
def YM0q (N : Nat) : Ly := [.inl N, .inr (4, [some (some 2), some (some 5), some (some 9), some (some 13), some (some 19)]), .inr (3, [some (some 3), some (some 4)]), .inl 7, .inl 30, .inr (0, [none, some (some 6), some (some 7), some (some 8), none, none, none, none]), .inl 30, .inl 30, .inl 30, .inr (0, [none, some (some 10), some (some 11), some (some 12), none, none, none, none]), .inl 30, .inl 30, .inl 30, .inr (2, [some (some 2), some (some 14), some (some 15), some (some 16), some (some 17), some (some 18), none, none, none, none]), .inl 150, .inl 750, .inl 150, .inl 5, .inl 30, .inr (1, [some (some 20), some (some 21), some (some 22), some (some 23), none]), .inl 6, .inl 6, .inl 6, .inl 6, .inr (5, [some none, some none, some none, some none, some none, some none, none, none, some none, some none, none, none, none, some none, some none, some none, some none, some none, none, none, some none, some none, some none, some none, some none, none, some none, some none, some none, some none])]
def YM1 (N : Nat) : Ly := [.inl N, .inr (4, [some (some 2), some (some 5), some (some 9), some (some 13), some (some 19)]), .inr (3, [some (some 3), some (some 4)]), .inl 7, .inl 30, .inr (0, [none, some (some 6), some (some 7), some (some 8), none, none, none, none]), .inl 30, .inl 30, .inl 30, .inr (0, [none, some (some 10), some (some 11), some (some 12), none, none, none, none]), .inl 30, .inl 30, .inl 30, .inr (2, [some (some 2), some (some 14), some (some 15), some (some 16), some (some 17), some (some 18), none, none, none, none]), .inl 150, .inl 750, .inl 150, .inl 5, .inl 30, .inr (1, [some (some 20), some (some 21), some (some 22), some (some 23), none]), .inl 6, .inl 6, .inl 6, .inl 6, .inr (5, [some none, some none, some none, some none, some none, some none, none, none, some none, some none, none, none, none, some none, some none, some none, some none, some none, none, none, some none, some none, some none, some none, some none, none, some none, some none, some none, some none]), .inl 60]
def YM1q (N : Nat) : Ly := [.inl N, .inr (4, [some (some 2), some (some 5), some (some 9), some (some 13), some (some 19)]), .inr (3, [some (some 3), some (some 4)]), .inl 7, .inl 30, .inr (0, [none, some (some 6), some (some 7), some (some 8), none, none, none, none]), .inl 30, .inl 30, .inl 30, .inr (0, [none, some (some 10), some (some 11), some (some 12), none, none, none, none]), .inl 30, .inl 30, .inl 30, .inr (2, [some (some 2), some (some 14), some (some 15), some (some 16), some (some 17), some (some 18), none, none, none, none]), .inl 150, .inl 750, .inl 150, .inl 5, .inl 30, .inr (1, [some (some 20), some (some 21), some (some 22), some (some 23), none]), .inl 6, .inl 6, .inl 6, .inl 6, .inr (5, [some (some 25), some none, some none, some none, some none, some none, none, none, some none, some none, none, none, none, some none, some none, some none, some none, some none, none, none, some none, some none, some none, some none, some none, none, some none, some none, some none, some none]), .inl 60]
def YM2 (N : Nat) : Ly := [.inl N, .inr (4, [some (some 2), some (some 5), some (some 9), some (some 13), some (some 19)]), .inr (3, [some (some 3), some (some 4)]), .inl 7, .inl 30, .inr (0, [none, some (some 6), some (some 7), some (some 8), none, none, none, none]), .inl 30, .inl 30, .inl 30, .inr (0, [none, some (some 10), some (some 11), some (some 12), none, none, none, none]), .inl 30, .inl 30, .inl 30, .inr (2, [some (some 2), some (some 14), some (some 15), some (some 16), some (some 17), some (some 18), none, none, none, none]), .inl 150, .inl 750, .inl 150, .inl 5, .inl 30, .inr (1, [some (some 20), some (some 21), some (some 22), some (some 23), none]), .inl 6, .inl 6, .inl 6, .inl 6, .inr (5, [some (some 25), some none, some none, some none, some none, some none, none, none, some none, some none, none, none, none, some none, some none, some none, some none, some none, none, none, some none, some none, some none, some none, some none, none, some none, some none, some none, some none]), .inl 60, .inl 60]
def YM2q (N : Nat) : Ly := [.inl N, .inr (4, [some (some 2), some (some 5), some (some 9), some (some 13), some (some 19)]), .inr (3, [some (some 3), some (some 4)]), .inl 7, .inl 30, .inr (0, [none, some (some 6), some (some 7), some (some 8), none, none, none, none]), .inl 30, .inl 30, .inl 30, .inr (0, [none, some (some 10), some (some 11), some (some 12), none, none, none, none]), .inl 30, .inl 30, .inl 30, .inr (2, [some (some 2), some (some 14), some (some 15), some (some 16), some (some 17), some (some 18), none, none, none, none]), .inl 150, .inl 750, .inl 150, .inl 5, .inl 30, .inr (1, [some (some 20), some (some 21), some (some 22), some (some 23), none]), .inl 6, .inl 6, .inl 6, .inl 6, .inr (5, [some (some 25), some (some 26), some none, some none, some none, some none, none, none, some none, some none, none, none, none, some none, some none, some none, some none, some none, none, none, some none, some none, some none, some none, some none, none, some none, some none, some none, some none]), .inl 60, .inl 60]
def YM3 (N : Nat) : Ly := [.inl N, .inr (4, [some (some 2), some (some 5), some (some 9), some (some 13), some (some 19)]), .inr (3, [some (some 3), some (some 4)]), .inl 7, .inl 30, .inr (0, [none, some (some 6), some (some 7), some (some 8), none, none, none, none]), .inl 30, .inl 30, .inl 30, .inr (0, [none, some (some 10), some (some 11), some (some 12), none, none, none, none]), .inl 30, .inl 30, .inl 30, .inr (2, [some (some 2), some (some 14), some (some 15), some (some 16), some (some 17), some (some 18), none, none, none, none]), .inl 150, .inl 750, .inl 150, .inl 5, .inl 30, .inr (1, [some (some 20), some (some 21), some (some 22), some (some 23), none]), .inl 6, .inl 6, .inl 6, .inl 6, .inr (5, [some (some 25), some (some 26), some none, some none, some none, some none, none, none, some none, some none, none, none, none, some none, some none, some none, some none, some none, none, none, some none, some none, some none, some none, some none, none, some none, some none, some none, some none]), .inl 60, .inl 60, .inl 46]
def YM3q (N : Nat) : Ly := [.inl N, .inr (4, [some (some 2), some (some 5), some (some 9), some (some 13), some (some 19)]), .inr (3, [some (some 3), some (some 4)]), .inl 7, .inl 30, .inr (0, [none, some (some 6), some (some 7), some (some 8), none, none, none, none]), .inl 30, .inl 30, .inl 30, .inr (0, [none, some (some 10), some (some 11), some (some 12), none, none, none, none]), .inl 30, .inl 30, .inl 30, .inr (2, [some (some 2), some (some 14), some (some 15), some (some 16), some (some 17), some (some 18), none, none, none, none]), .inl 150, .inl 750, .inl 150, .inl 5, .inl 30, .inr (1, [some (some 20), some (some 21), some (some 22), some (some 23), none]), .inl 6, .inl 6, .inl 6, .inl 6, .inr (5, [some (some 25), some (some 26), some (some 27), some none, some none, some none, none, none, some none, some none, none, none, none, some none, some none, some none, some none, some none, none, none, some none, some none, some none, some none, some none, none, some none, some none, some none, some none]), .inl 60, .inl 60, .inl 46]
def YM4 (N : Nat) : Ly := [.inl N, .inr (4, [some (some 2), some (some 5), some (some 9), some (some 13), some (some 19)]), .inr (3, [some (some 3), some (some 4)]), .inl 7, .inl 30, .inr (0, [none, some (some 6), some (some 7), some (some 8), none, none, none, none]), .inl 30, .inl 30, .inl 30, .inr (0, [none, some (some 10), some (some 11), some (some 12), none, none, none, none]), .inl 30, .inl 30, .inl 30, .inr (2, [some (some 2), some (some 14), some (some 15), some (some 16), some (some 17), some (some 18), none, none, none, none]), .inl 150, .inl 750, .inl 150, .inl 5, .inl 30, .inr (1, [some (some 20), some (some 21), some (some 22), some (some 23), none]), .inl 6, .inl 6, .inl 6, .inl 6, .inr (5, [some (some 25), some (some 26), some (some 27), some none, some none, some none, none, none, some none, some none, none, none, none, some none, some none, some none, some none, some none, none, none, some none, some none, some none, some none, some none, none, some none, some none, some none, some none]), .inl 60, .inl 60, .inl 46, .inl 46]
def YM4q (N : Nat) : Ly := [.inl N, .inr (4, [some (some 2), some (some 5), some (some 9), some (some 13), some (some 19)]), .inr (3, [some (some 3), some (some 4)]), .inl 7, .inl 30, .inr (0, [none, some (some 6), some (some 7), some (some 8), none, none, none, none]), .inl 30, .inl 30, .inl 30, .inr (0, [none, some (some 10), some (some 11), some (some 12), none, none, none, none]), .inl 30, .inl 30, .inl 30, .inr (2, [some (some 2), some (some 14), some (some 15), some (some 16), some (some 17), some (some 18), none, none, none, none]), .inl 150, .inl 750, .inl 150, .inl 5, .inl 30, .inr (1, [some (some 20), some (some 21), some (some 22), some (some 23), none]), .inl 6, .inl 6, .inl 6, .inl 6, .inr (5, [some (some 25), some (some 26), some (some 27), some (some 28), some none, some none, none, none, some none, some none, none, none, none, some none, some none, some none, some none, some none, none, none, some none, some none, some none, some none, some none, none, some none, some none, some none, some none]), .inl 60, .inl 60, .inl 46, .inl 46]
def YM5 (N : Nat) : Ly := [.inl N, .inr (4, [some (some 2), some (some 5), some (some 9), some (some 13), some (some 19)]), .inr (3, [some (some 3), some (some 4)]), .inl 7, .inl 30, .inr (0, [none, some (some 6), some (some 7), some (some 8), none, none, none, none]), .inl 30, .inl 30, .inl 30, .inr (0, [none, some (some 10), some (some 11), some (some 12), none, none, none, none]), .inl 30, .inl 30, .inl 30, .inr (2, [some (some 2), some (some 14), some (some 15), some (some 16), some (some 17), some (some 18), none, none, none, none]), .inl 150, .inl 750, .inl 150, .inl 5, .inl 30, .inr (1, [some (some 20), some (some 21), some (some 22), some (some 23), none]), .inl 6, .inl 6, .inl 6, .inl 6, .inr (5, [some (some 25), some (some 26), some (some 27), some (some 28), some none, some none, none, none, some none, some none, none, none, none, some none, some none, some none, some none, some none, none, none, some none, some none, some none, some none, some none, none, some none, some none, some none, some none]), .inl 60, .inl 60, .inl 46, .inl 46, .inl 46]
def YM5q (N : Nat) : Ly := [.inl N, .inr (4, [some (some 2), some (some 5), some (some 9), some (some 13), some (some 19)]), .inr (3, [some (some 3), some (some 4)]), .inl 7, .inl 30, .inr (0, [none, some (some 6), some (some 7), some (some 8), none, none, none, none]), .inl 30, .inl 30, .inl 30, .inr (0, [none, some (some 10), some (some 11), some (some 12), none, none, none, none]), .inl 30, .inl 30, .inl 30, .inr (2, [some (some 2), some (some 14), some (some 15), some (some 16), some (some 17), some (some 18), none, none, none, none]), .inl 150, .inl 750, .inl 150, .inl 5, .inl 30, .inr (1, [some (some 20), some (some 21), some (some 22), some (some 23), none]), .inl 6, .inl 6, .inl 6, .inl 6, .inr (5, [some (some 25), some (some 26), some (some 27), some (some 28), some (some 29), some none, none, none, some none, some none, none, none, none, some none, some none, some none, some none, some none, none, none, some none, some none, some none, some none, some none, none, some none, some none, some none, some none]), .inl 60, .inl 60, .inl 46, .inl 46, .inl 46]
def YM6 (N : Nat) : Ly := [.inl N, .inr (4, [some (some 2), some (some 5), some (some 9), some (some 13), some (some 19)]), .inr (3, [some (some 3), some (some 4)]), .inl 7, .inl 30, .inr (0, [none, some (some 6), some (some 7), some (some 8), none, none, none, none]), .inl 30, .inl 30, .inl 30, .inr (0, [none, some (some 10), some (some 11), some (some 12), none, none, none, none]), .inl 30, .inl 30, .inl 30, .inr (2, [some (some 2), some (some 14), some (some 15), some (some 16), some (some 17), some (some 18), none, none, none, none]), .inl 150, .inl 750, .inl 150, .inl 5, .inl 30, .inr (1, [some (some 20), some (some 21), some (some 22), some (some 23), none]), .inl 6, .inl 6, .inl 6, .inl 6, .inr (5, [some (some 25), some (some 26), some (some 27), some (some 28), some (some 29), some none, none, none, some none, some none, none, none, none, some none, some none, some none, some none, some none, none, none, some none, some none, some none, some none, some none, none, some none, some none, some none, some none]), .inl 60, .inl 60, .inl 46, .inl 46, .inl 46, .inl 7]
def YM6q (N : Nat) : Ly := [.inl N, .inr (4, [some (some 2), some (some 5), some (some 9), some (some 13), some (some 19)]), .inr (3, [some (some 3), some (some 4)]), .inl 7, .inl 30, .inr (0, [none, some (some 6), some (some 7), some (some 8), none, none, none, none]), .inl 30, .inl 30, .inl 30, .inr (0, [none, some (some 10), some (some 11), some (some 12), none, none, none, none]), .inl 30, .inl 30, .inl 30, .inr (2, [some (some 2), some (some 14), some (some 15), some (some 16), some (some 17), some (some 18), none, none, none, none]), .inl 150, .inl 750, .inl 150, .inl 5, .inl 30, .inr (1, [some (some 20), some (some 21), some (some 22), some (some 23), none]), .inl 6, .inl 6, .inl 6, .inl 6, .inr (5, [some (some 25), some (some 26), some (some 27), some (some 28), some (some 29), some (some 30), none, none, some none, some none, none, none, none, some none, some none, some none, some none, some none, none, none, some none, some none, some none, some none, some none, none, some none, some none, some none, some none]), .inl 60, .inl 60, .inl 46, .inl 46, .inl 46, .inl 7]
def YM7 (N : Nat) : Ly := [.inl N, .inr (4, [some (some 2), some (some 5), some (some 9), some (some 13), some (some 19)]), .inr (3, [some (some 3), some (some 4)]), .inl 7, .inl 30, .inr (0, [none, some (some 6), some (some 7), some (some 8), none, none, none, none]), .inl 30, .inl 30, .inl 30, .inr (0, [none, some (some 10), some (some 11), some (some 12), none, none, none, none]), .inl 30, .inl 30, .inl 30, .inr (2, [some (some 2), some (some 14), some (some 15), some (some 16), some (some 17), some (some 18), none, none, none, none]), .inl 150, .inl 750, .inl 150, .inl 5, .inl 30, .inr (1, [some (some 20), some (some 21), some (some 22), some (some 23), none]), .inl 6, .inl 6, .inl 6, .inl 6, .inr (5, [some (some 25), some (some 26), some (some 27), some (some 28), some (some 29), some (some 30), none, none, some none, some none, none, none, none, some none, some none, some none, some none, some none, none, none, some none, some none, some none, some none, some none, none, some none, some none, some none, some none]), .inl 60, .inl 60, .inl 46, .inl 46, .inl 46, .inl 7, .inl 30]
def YM7q (N : Nat) : Ly := [.inl N, .inr (4, [some (some 2), some (some 5), some (some 9), some (some 13), some (some 19)]), .inr (3, [some (some 3), some (some 4)]), .inl 7, .inl 30, .inr (0, [none, some (some 6), some (some 7), some (some 8), none, none, none, none]), .inl 30, .inl 30, .inl 30, .inr (0, [none, some (some 10), some (some 11), some (some 12), none, none, none, none]), .inl 30, .inl 30, .inl 30, .inr (2, [some (some 2), some (some 14), some (some 15), some (some 16), some (some 17), some (some 18), none, none, none, none]), .inl 150, .inl 750, .inl 150, .inl 5, .inl 30, .inr (1, [some (some 20), some (some 21), some (some 22), some (some 23), none]), .inl 6, .inl 6, .inl 6, .inl 6, .inr (5, [some (some 25), some (some 26), some (some 27), some (some 28), some (some 29), some (some 30), none, none, some (some 31), some none, none, none, none, some none, some none, some none, some none, some none, none, none, some none, some none, some none, some none, some none, none, some none, some none, some none, some none]), .inl 60, .inl 60, .inl 46, .inl 46, .inl 46, .inl 7, .inl 30]
def YM8 (N : Nat) : Ly := [.inl N, .inr (4, [some (some 2), some (some 5), some (some 9), some (some 13), some (some 19)]), .inr (3, [some (some 3), some (some 4)]), .inl 7, .inl 30, .inr (0, [none, some (some 6), some (some 7), some (some 8), none, none, none, none]), .inl 30, .inl 30, .inl 30, .inr (0, [none, some (some 10), some (some 11), some (some 12), none, none, none, none]), .inl 30, .inl 30, .inl 30, .inr (2, [some (some 2), some (some 14), some (some 15), some (some 16), some (some 17), some (some 18), none, none, none, none]), .inl 150, .inl 750, .inl 150, .inl 5, .inl 30, .inr (1, [some (some 20), some (some 21), some (some 22), some (some 23), none]), .inl 6, .inl 6, .inl 6, .inl 6, .inr (5, [some (some 25), some (some 26), some (some 27), some (some 28), some (some 29), some (some 30), none, none, some (some 31), some none, none, none, none, some none, some none, some none, some none, some none, none, none, some none, some none, some none, some none, some none, none, some none, some none, some none, some none]), .inl 60, .inl 60, .inl 46, .inl 46, .inl 46, .inl 7, .inl 30, .inl 30]
def YM8q (N : Nat) : Ly := [.inl N, .inr (4, [some (some 2), some (some 5), some (some 9), some (some 13), some (some 19)]), .inr (3, [some (some 3), some (some 4)]), .inl 7, .inl 30, .inr (0, [none, some (some 6), some (some 7), some (some 8), none, none, none, none]), .inl 30, .inl 30, .inl 30, .inr (0, [none, some (some 10), some (some 11), some (some 12), none, none, none, none]), .inl 30, .inl 30, .inl 30, .inr (2, [some (some 2), some (some 14), some (some 15), some (some 16), some (some 17), some (some 18), none, none, none, none]), .inl 150, .inl 750, .inl 150, .inl 5, .inl 30, .inr (1, [some (some 20), some (some 21), some (some 22), some (some 23), none]), .inl 6, .inl 6, .inl 6, .inl 6, .inr (5, [some (some 25), some (some 26), some (some 27), some (some 28), some (some 29), some (some 30), none, none, some (some 31), some (some 32), none, none, none, some none, some none, some none, some none, some none, none, none, some none, some none, some none, some none, some none, none, some none, some none, some none, some none]), .inl 60, .inl 60, .inl 46, .inl 46, .inl 46, .inl 7, .inl 30, .inl 30]
def YM9 (N : Nat) : Ly := [.inl N, .inr (4, [some (some 2), some (some 5), some (some 9), some (some 13), some (some 19)]), .inr (3, [some (some 3), some (some 4)]), .inl 7, .inl 30, .inr (0, [none, some (some 6), some (some 7), some (some 8), none, none, none, none]), .inl 30, .inl 30, .inl 30, .inr (0, [none, some (some 10), some (some 11), some (some 12), none, none, none, none]), .inl 30, .inl 30, .inl 30, .inr (2, [some (some 2), some (some 14), some (some 15), some (some 16), some (some 17), some (some 18), none, none, none, none]), .inl 150, .inl 750, .inl 150, .inl 5, .inl 30, .inr (1, [some (some 20), some (some 21), some (some 22), some (some 23), none]), .inl 6, .inl 6, .inl 6, .inl 6, .inr (5, [some (some 25), some (some 26), some (some 27), some (some 28), some (some 29), some (some 30), none, none, some (some 31), some (some 32), none, none, none, some none, some none, some none, some none, some none, none, none, some none, some none, some none, some none, some none, none, some none, some none, some none, some none]), .inl 60, .inl 60, .inl 46, .inl 46, .inl 46, .inl 7, .inl 30, .inl 30, .inl 6]
def YM9q (N : Nat) : Ly := [.inl N, .inr (4, [some (some 2), some (some 5), some (some 9), some (some 13), some (some 19)]), .inr (3, [some (some 3), some (some 4)]), .inl 7, .inl 30, .inr (0, [none, some (some 6), some (some 7), some (some 8), none, none, none, none]), .inl 30, .inl 30, .inl 30, .inr (0, [none, some (some 10), some (some 11), some (some 12), none, none, none, none]), .inl 30, .inl 30, .inl 30, .inr (2, [some (some 2), some (some 14), some (some 15), some (some 16), some (some 17), some (some 18), none, none, none, none]), .inl 150, .inl 750, .inl 150, .inl 5, .inl 30, .inr (1, [some (some 20), some (some 21), some (some 22), some (some 23), none]), .inl 6, .inl 6, .inl 6, .inl 6, .inr (5, [some (some 25), some (some 26), some (some 27), some (some 28), some (some 29), some (some 30), none, none, some (some 31), some (some 32), none, none, none, some (some 33), some none, some none, some none, some none, none, none, some none, some none, some none, some none, some none, none, some none, some none, some none, some none]), .inl 60, .inl 60, .inl 46, .inl 46, .inl 46, .inl 7, .inl 30, .inl 30, .inl 6]
def YM10 (N : Nat) : Ly := [.inl N, .inr (4, [some (some 2), some (some 5), some (some 9), some (some 13), some (some 19)]), .inr (3, [some (some 3), some (some 4)]), .inl 7, .inl 30, .inr (0, [none, some (some 6), some (some 7), some (some 8), none, none, none, none]), .inl 30, .inl 30, .inl 30, .inr (0, [none, some (some 10), some (some 11), some (some 12), none, none, none, none]), .inl 30, .inl 30, .inl 30, .inr (2, [some (some 2), some (some 14), some (some 15), some (some 16), some (some 17), some (some 18), none, none, none, none]), .inl 150, .inl 750, .inl 150, .inl 5, .inl 30, .inr (1, [some (some 20), some (some 21), some (some 22), some (some 23), none]), .inl 6, .inl 6, .inl 6, .inl 6, .inr (5, [some (some 25), some (some 26), some (some 27), some (some 28), some (some 29), some (some 30), none, none, some (some 31), some (some 32), none, none, none, some (some 33), some none, some none, some none, some none, none, none, some none, some none, some none, some none, some none, none, some none, some none, some none, some none]), .inl 60, .inl 60, .inl 46, .inl 46, .inl 46, .inl 7, .inl 30, .inl 30, .inl 6, .inl 6]
def YM10q (N : Nat) : Ly := [.inl N, .inr (4, [some (some 2), some (some 5), some (some 9), some (some 13), some (some 19)]), .inr (3, [some (some 3), some (some 4)]), .inl 7, .inl 30, .inr (0, [none, some (some 6), some (some 7), some (some 8), none, none, none, none]), .inl 30, .inl 30, .inl 30, .inr (0, [none, some (some 10), some (some 11), some (some 12), none, none, none, none]), .inl 30, .inl 30, .inl 30, .inr (2, [some (some 2), some (some 14), some (some 15), some (some 16), some (some 17), some (some 18), none, none, none, none]), .inl 150, .inl 750, .inl 150, .inl 5, .inl 30, .inr (1, [some (some 20), some (some 21), some (some 22), some (some 23), none]), .inl 6, .inl 6, .inl 6, .inl 6, .inr (5, [some (some 25), some (some 26), some (some 27), some (some 28), some (some 29), some (some 30), none, none, some (some 31), some (some 32), none, none, none, some (some 33), some (some 34), some none, some none, some none, none, none, some none, some none, some none, some none, some none, none, some none, some none, some none, some none]), .inl 60, .inl 60, .inl 46, .inl 46, .inl 46, .inl 7, .inl 30, .inl 30, .inl 6, .inl 6]
def YM11 (N : Nat) : Ly := [.inl N, .inr (4, [some (some 2), some (some 5), some (some 9), some (some 13), some (some 19)]), .inr (3, [some (some 3), some (some 4)]), .inl 7, .inl 30, .inr (0, [none, some (some 6), some (some 7), some (some 8), none, none, none, none]), .inl 30, .inl 30, .inl 30, .inr (0, [none, some (some 10), some (some 11), some (some 12), none, none, none, none]), .inl 30, .inl 30, .inl 30, .inr (2, [some (some 2), some (some 14), some (some 15), some (some 16), some (some 17), some (some 18), none, none, none, none]), .inl 150, .inl 750, .inl 150, .inl 5, .inl 30, .inr (1, [some (some 20), some (some 21), some (some 22), some (some 23), none]), .inl 6, .inl 6, .inl 6, .inl 6, .inr (5, [some (some 25), some (some 26), some (some 27), some (some 28), some (some 29), some (some 30), none, none, some (some 31), some (some 32), none, none, none, some (some 33), some (some 34), some none, some none, some none, none, none, some none, some none, some none, some none, some none, none, some none, some none, some none, some none]), .inl 60, .inl 60, .inl 46, .inl 46, .inl 46, .inl 7, .inl 30, .inl 30, .inl 6, .inl 6, .inl 180]
def YM11q (N : Nat) : Ly := [.inl N, .inr (4, [some (some 2), some (some 5), some (some 9), some (some 13), some (some 19)]), .inr (3, [some (some 3), some (some 4)]), .inl 7, .inl 30, .inr (0, [none, some (some 6), some (some 7), some (some 8), none, none, none, none]), .inl 30, .inl 30, .inl 30, .inr (0, [none, some (some 10), some (some 11), some (some 12), none, none, none, none]), .inl 30, .inl 30, .inl 30, .inr (2, [some (some 2), some (some 14), some (some 15), some (some 16), some (some 17), some (some 18), none, none, none, none]), .inl 150, .inl 750, .inl 150, .inl 5, .inl 30, .inr (1, [some (some 20), some (some 21), some (some 22), some (some 23), none]), .inl 6, .inl 6, .inl 6, .inl 6, .inr (5, [some (some 25), some (some 26), some (some 27), some (some 28), some (some 29), some (some 30), none, none, some (some 31), some (some 32), none, none, none, some (some 33), some (some 34), some (some 35), some none, some none, none, none, some none, some none, some none, some none, some none, none, some none, some none, some none, some none]), .inl 60, .inl 60, .inl 46, .inl 46, .inl 46, .inl 7, .inl 30, .inl 30, .inl 6, .inl 6, .inl 180]
def YM12 (N : Nat) : Ly := [.inl N, .inr (4, [some (some 2), some (some 5), some (some 9), some (some 13), some (some 19)]), .inr (3, [some (some 3), some (some 4)]), .inl 7, .inl 30, .inr (0, [none, some (some 6), some (some 7), some (some 8), none, none, none, none]), .inl 30, .inl 30, .inl 30, .inr (0, [none, some (some 10), some (some 11), some (some 12), none, none, none, none]), .inl 30, .inl 30, .inl 30, .inr (2, [some (some 2), some (some 14), some (some 15), some (some 16), some (some 17), some (some 18), none, none, none, none]), .inl 150, .inl 750, .inl 150, .inl 5, .inl 30, .inr (1, [some (some 20), some (some 21), some (some 22), some (some 23), none]), .inl 6, .inl 6, .inl 6, .inl 6, .inr (5, [some (some 25), some (some 26), some (some 27), some (some 28), some (some 29), some (some 30), none, none, some (some 31), some (some 32), none, none, none, some (some 33), some (some 34), some (some 35), some none, some none, none, none, some none, some none, some none, some none, some none, none, some none, some none, some none, some none]), .inl 60, .inl 60, .inl 46, .inl 46, .inl 46, .inl 7, .inl 30, .inl 30, .inl 6, .inl 6, .inl 180, .inl 180]
def YM12q (N : Nat) : Ly := [.inl N, .inr (4, [some (some 2), some (some 5), some (some 9), some (some 13), some (some 19)]), .inr (3, [some (some 3), some (some 4)]), .inl 7, .inl 30, .inr (0, [none, some (some 6), some (some 7), some (some 8), none, none, none, none]), .inl 30, .inl 30, .inl 30, .inr (0, [none, some (some 10), some (some 11), some (some 12), none, none, none, none]), .inl 30, .inl 30, .inl 30, .inr (2, [some (some 2), some (some 14), some (some 15), some (some 16), some (some 17), some (some 18), none, none, none, none]), .inl 150, .inl 750, .inl 150, .inl 5, .inl 30, .inr (1, [some (some 20), some (some 21), some (some 22), some (some 23), none]), .inl 6, .inl 6, .inl 6, .inl 6, .inr (5, [some (some 25), some (some 26), some (some 27), some (some 28), some (some 29), some (some 30), none, none, some (some 31), some (some 32), none, none, none, some (some 33), some (some 34), some (some 35), some (some 36), some none, none, none, some none, some none, some none, some none, some none, none, some none, some none, some none, some none]), .inl 60, .inl 60, .inl 46, .inl 46, .inl 46, .inl 7, .inl 30, .inl 30, .inl 6, .inl 6, .inl 180, .inl 180]
def YM13 (N : Nat) : Ly := [.inl N, .inr (4, [some (some 2), some (some 5), some (some 9), some (some 13), some (some 19)]), .inr (3, [some (some 3), some (some 4)]), .inl 7, .inl 30, .inr (0, [none, some (some 6), some (some 7), some (some 8), none, none, none, none]), .inl 30, .inl 30, .inl 30, .inr (0, [none, some (some 10), some (some 11), some (some 12), none, none, none, none]), .inl 30, .inl 30, .inl 30, .inr (2, [some (some 2), some (some 14), some (some 15), some (some 16), some (some 17), some (some 18), none, none, none, none]), .inl 150, .inl 750, .inl 150, .inl 5, .inl 30, .inr (1, [some (some 20), some (some 21), some (some 22), some (some 23), none]), .inl 6, .inl 6, .inl 6, .inl 6, .inr (5, [some (some 25), some (some 26), some (some 27), some (some 28), some (some 29), some (some 30), none, none, some (some 31), some (some 32), none, none, none, some (some 33), some (some 34), some (some 35), some (some 36), some none, none, none, some none, some none, some none, some none, some none, none, some none, some none, some none, some none]), .inl 60, .inl 60, .inl 46, .inl 46, .inl 46, .inl 7, .inl 30, .inl 30, .inl 6, .inl 6, .inl 180, .inl 180, .inl 6]
def YM13q (N : Nat) : Ly := [.inl N, .inr (4, [some (some 2), some (some 5), some (some 9), some (some 13), some (some 19)]), .inr (3, [some (some 3), some (some 4)]), .inl 7, .inl 30, .inr (0, [none, some (some 6), some (some 7), some (some 8), none, none, none, none]), .inl 30, .inl 30, .inl 30, .inr (0, [none, some (some 10), some (some 11), some (some 12), none, none, none, none]), .inl 30, .inl 30, .inl 30, .inr (2, [some (some 2), some (some 14), some (some 15), some (some 16), some (some 17), some (some 18), none, none, none, none]), .inl 150, .inl 750, .inl 150, .inl 5, .inl 30, .inr (1, [some (some 20), some (some 21), some (some 22), some (some 23), none]), .inl 6, .inl 6, .inl 6, .inl 6, .inr (5, [some (some 25), some (some 26), some (some 27), some (some 28), some (some 29), some (some 30), none, none, some (some 31), some (some 32), none, none, none, some (some 33), some (some 34), some (some 35), some (some 36), some (some 37), none, none, some none, some none, some none, some none, some none, none, some none, some none, some none, some none]), .inl 60, .inl 60, .inl 46, .inl 46, .inl 46, .inl 7, .inl 30, .inl 30, .inl 6, .inl 6, .inl 180, .inl 180, .inl 6]
def YM14 (N : Nat) : Ly := [.inl N, .inr (4, [some (some 2), some (some 5), some (some 9), some (some 13), some (some 19)]), .inr (3, [some (some 3), some (some 4)]), .inl 7, .inl 30, .inr (0, [none, some (some 6), some (some 7), some (some 8), none, none, none, none]), .inl 30, .inl 30, .inl 30, .inr (0, [none, some (some 10), some (some 11), some (some 12), none, none, none, none]), .inl 30, .inl 30, .inl 30, .inr (2, [some (some 2), some (some 14), some (some 15), some (some 16), some (some 17), some (some 18), none, none, none, none]), .inl 150, .inl 750, .inl 150, .inl 5, .inl 30, .inr (1, [some (some 20), some (some 21), some (some 22), some (some 23), none]), .inl 6, .inl 6, .inl 6, .inl 6, .inr (5, [some (some 25), some (some 26), some (some 27), some (some 28), some (some 29), some (some 30), none, none, some (some 31), some (some 32), none, none, none, some (some 33), some (some 34), some (some 35), some (some 36), some (some 37), none, none, some none, some none, some none, some none, some none, none, some none, some none, some none, some none]), .inl 60, .inl 60, .inl 46, .inl 46, .inl 46, .inl 7, .inl 30, .inl 30, .inl 6, .inl 6, .inl 180, .inl 180, .inl 6, .inl 2]
def YM14q (N : Nat) : Ly := [.inl N, .inr (4, [some (some 2), some (some 5), some (some 9), some (some 13), some (some 19)]), .inr (3, [some (some 3), some (some 4)]), .inl 7, .inl 30, .inr (0, [none, some (some 6), some (some 7), some (some 8), none, none, none, none]), .inl 30, .inl 30, .inl 30, .inr (0, [none, some (some 10), some (some 11), some (some 12), none, none, none, none]), .inl 30, .inl 30, .inl 30, .inr (2, [some (some 2), some (some 14), some (some 15), some (some 16), some (some 17), some (some 18), none, none, none, none]), .inl 150, .inl 750, .inl 150, .inl 5, .inl 30, .inr (1, [some (some 20), some (some 21), some (some 22), some (some 23), none]), .inl 6, .inl 6, .inl 6, .inl 6, .inr (5, [some (some 25), some (some 26), some (some 27), some (some 28), some (some 29), some (some 30), none, none, some (some 31), some (some 32), none, none, none, some (some 33), some (some 34), some (some 35), some (some 36), some (some 37), none, none, some (some 38), some none, some none, some none, some none, none, some none, some none, some none, some none]), .inl 60, .inl 60, .inl 46, .inl 46, .inl 46, .inl 7, .inl 30, .inl 30, .inl 6, .inl 6, .inl 180, .inl 180, .inl 6, .inl 2]
def YM15 (N : Nat) : Ly := [.inl N, .inr (4, [some (some 2), some (some 5), some (some 9), some (some 13), some (some 19)]), .inr (3, [some (some 3), some (some 4)]), .inl 7, .inl 30, .inr (0, [none, some (some 6), some (some 7), some (some 8), none, none, none, none]), .inl 30, .inl 30, .inl 30, .inr (0, [none, some (some 10), some (some 11), some (some 12), none, none, none, none]), .inl 30, .inl 30, .inl 30, .inr (2, [some (some 2), some (some 14), some (some 15), some (some 16), some (some 17), some (some 18), none, none, none, none]), .inl 150, .inl 750, .inl 150, .inl 5, .inl 30, .inr (1, [some (some 20), some (some 21), some (some 22), some (some 23), none]), .inl 6, .inl 6, .inl 6, .inl 6, .inr (5, [some (some 25), some (some 26), some (some 27), some (some 28), some (some 29), some (some 30), none, none, some (some 31), some (some 32), none, none, none, some (some 33), some (some 34), some (some 35), some (some 36), some (some 37), none, none, some (some 38), some none, some none, some none, some none, none, some none, some none, some none, some none]), .inl 60, .inl 60, .inl 46, .inl 46, .inl 46, .inl 7, .inl 30, .inl 30, .inl 6, .inl 6, .inl 180, .inl 180, .inl 6, .inl 2, .inl 60]
def YM15q (N : Nat) : Ly := [.inl N, .inr (4, [some (some 2), some (some 5), some (some 9), some (some 13), some (some 19)]), .inr (3, [some (some 3), some (some 4)]), .inl 7, .inl 30, .inr (0, [none, some (some 6), some (some 7), some (some 8), none, none, none, none]), .inl 30, .inl 30, .inl 30, .inr (0, [none, some (some 10), some (some 11), some (some 12), none, none, none, none]), .inl 30, .inl 30, .inl 30, .inr (2, [some (some 2), some (some 14), some (some 15), some (some 16), some (some 17), some (some 18), none, none, none, none]), .inl 150, .inl 750, .inl 150, .inl 5, .inl 30, .inr (1, [some (some 20), some (some 21), some (some 22), some (some 23), none]), .inl 6, .inl 6, .inl 6, .inl 6, .inr (5, [some (some 25), some (some 26), some (some 27), some (some 28), some (some 29), some (some 30), none, none, some (some 31), some (some 32), none, none, none, some (some 33), some (some 34), some (some 35), some (some 36), some (some 37), none, none, some (some 38), some (some 39), some none, some none, some none, none, some none, some none, some none, some none]), .inl 60, .inl 60, .inl 46, .inl 46, .inl 46, .inl 7, .inl 30, .inl 30, .inl 6, .inl 6, .inl 180, .inl 180, .inl 6, .inl 2, .inl 60]
def YM16 (N : Nat) : Ly := [.inl N, .inr (4, [some (some 2), some (some 5), some (some 9), some (some 13), some (some 19)]), .inr (3, [some (some 3), some (some 4)]), .inl 7, .inl 30, .inr (0, [none, some (some 6), some (some 7), some (some 8), none, none, none, none]), .inl 30, .inl 30, .inl 30, .inr (0, [none, some (some 10), some (some 11), some (some 12), none, none, none, none]), .inl 30, .inl 30, .inl 30, .inr (2, [some (some 2), some (some 14), some (some 15), some (some 16), some (some 17), some (some 18), none, none, none, none]), .inl 150, .inl 750, .inl 150, .inl 5, .inl 30, .inr (1, [some (some 20), some (some 21), some (some 22), some (some 23), none]), .inl 6, .inl 6, .inl 6, .inl 6, .inr (5, [some (some 25), some (some 26), some (some 27), some (some 28), some (some 29), some (some 30), none, none, some (some 31), some (some 32), none, none, none, some (some 33), some (some 34), some (some 35), some (some 36), some (some 37), none, none, some (some 38), some (some 39), some none, some none, some none, none, some none, some none, some none, some none]), .inl 60, .inl 60, .inl 46, .inl 46, .inl 46, .inl 7, .inl 30, .inl 30, .inl 6, .inl 6, .inl 180, .inl 180, .inl 6, .inl 2, .inl 60, .inl 2]
def YM16q (N : Nat) : Ly := [.inl N, .inr (4, [some (some 2), some (some 5), some (some 9), some (some 13), some (some 19)]), .inr (3, [some (some 3), some (some 4)]), .inl 7, .inl 30, .inr (0, [none, some (some 6), some (some 7), some (some 8), none, none, none, none]), .inl 30, .inl 30, .inl 30, .inr (0, [none, some (some 10), some (some 11), some (some 12), none, none, none, none]), .inl 30, .inl 30, .inl 30, .inr (2, [some (some 2), some (some 14), some (some 15), some (some 16), some (some 17), some (some 18), none, none, none, none]), .inl 150, .inl 750, .inl 150, .inl 5, .inl 30, .inr (1, [some (some 20), some (some 21), some (some 22), some (some 23), none]), .inl 6, .inl 6, .inl 6, .inl 6, .inr (5, [some (some 25), some (some 26), some (some 27), some (some 28), some (some 29), some (some 30), none, none, some (some 31), some (some 32), none, none, none, some (some 33), some (some 34), some (some 35), some (some 36), some (some 37), none, none, some (some 38), some (some 39), some (some 40), some none, some none, none, some none, some none, some none, some none]), .inl 60, .inl 60, .inl 46, .inl 46, .inl 46, .inl 7, .inl 30, .inl 30, .inl 6, .inl 6, .inl 180, .inl 180, .inl 6, .inl 2, .inl 60, .inl 2]
def YM17 (N : Nat) : Ly := [.inl N, .inr (4, [some (some 2), some (some 5), some (some 9), some (some 13), some (some 19)]), .inr (3, [some (some 3), some (some 4)]), .inl 7, .inl 30, .inr (0, [none, some (some 6), some (some 7), some (some 8), none, none, none, none]), .inl 30, .inl 30, .inl 30, .inr (0, [none, some (some 10), some (some 11), some (some 12), none, none, none, none]), .inl 30, .inl 30, .inl 30, .inr (2, [some (some 2), some (some 14), some (some 15), some (some 16), some (some 17), some (some 18), none, none, none, none]), .inl 150, .inl 750, .inl 150, .inl 5, .inl 30, .inr (1, [some (some 20), some (some 21), some (some 22), some (some 23), none]), .inl 6, .inl 6, .inl 6, .inl 6, .inr (5, [some (some 25), some (some 26), some (some 27), some (some 28), some (some 29), some (some 30), none, none, some (some 31), some (some 32), none, none, none, some (some 33), some (some 34), some (some 35), some (some 36), some (some 37), none, none, some (some 38), some (some 39), some (some 40), some none, some none, none, some none, some none, some none, some none]), .inl 60, .inl 60, .inl 46, .inl 46, .inl 46, .inl 7, .inl 30, .inl 30, .inl 6, .inl 6, .inl 180, .inl 180, .inl 6, .inl 2, .inl 60, .inl 2, .inl 2]
def YM17q (N : Nat) : Ly := [.inl N, .inr (4, [some (some 2), some (some 5), some (some 9), some (some 13), some (some 19)]), .inr (3, [some (some 3), some (some 4)]), .inl 7, .inl 30, .inr (0, [none, some (some 6), some (some 7), some (some 8), none, none, none, none]), .inl 30, .inl 30, .inl 30, .inr (0, [none, some (some 10), some (some 11), some (some 12), none, none, none, none]), .inl 30, .inl 30, .inl 30, .inr (2, [some (some 2), some (some 14), some (some 15), some (some 16), some (some 17), some (some 18), none, none, none, none]), .inl 150, .inl 750, .inl 150, .inl 5, .inl 30, .inr (1, [some (some 20), some (some 21), some (some 22), some (some 23), none]), .inl 6, .inl 6, .inl 6, .inl 6, .inr (5, [some (some 25), some (some 26), some (some 27), some (some 28), some (some 29), some (some 30), none, none, some (some 31), some (some 32), none, none, none, some (some 33), some (some 34), some (some 35), some (some 36), some (some 37), none, none, some (some 38), some (some 39), some (some 40), some (some 41), some none, none, some none, some none, some none, some none]), .inl 60, .inl 60, .inl 46, .inl 46, .inl 46, .inl 7, .inl 30, .inl 30, .inl 6, .inl 6, .inl 180, .inl 180, .inl 6, .inl 2, .inl 60, .inl 2, .inl 2]
def YM18 (N : Nat) : Ly := [.inl N, .inr (4, [some (some 2), some (some 5), some (some 9), some (some 13), some (some 19)]), .inr (3, [some (some 3), some (some 4)]), .inl 7, .inl 30, .inr (0, [none, some (some 6), some (some 7), some (some 8), none, none, none, none]), .inl 30, .inl 30, .inl 30, .inr (0, [none, some (some 10), some (some 11), some (some 12), none, none, none, none]), .inl 30, .inl 30, .inl 30, .inr (2, [some (some 2), some (some 14), some (some 15), some (some 16), some (some 17), some (some 18), none, none, none, none]), .inl 150, .inl 750, .inl 150, .inl 5, .inl 30, .inr (1, [some (some 20), some (some 21), some (some 22), some (some 23), none]), .inl 6, .inl 6, .inl 6, .inl 6, .inr (5, [some (some 25), some (some 26), some (some 27), some (some 28), some (some 29), some (some 30), none, none, some (some 31), some (some 32), none, none, none, some (some 33), some (some 34), some (some 35), some (some 36), some (some 37), none, none, some (some 38), some (some 39), some (some 40), some (some 41), some none, none, some none, some none, some none, some none]), .inl 60, .inl 60, .inl 46, .inl 46, .inl 46, .inl 7, .inl 30, .inl 30, .inl 6, .inl 6, .inl 180, .inl 180, .inl 6, .inl 2, .inl 60, .inl 2, .inl 2, .inl 2]
def YM18q (N : Nat) : Ly := [.inl N, .inr (4, [some (some 2), some (some 5), some (some 9), some (some 13), some (some 19)]), .inr (3, [some (some 3), some (some 4)]), .inl 7, .inl 30, .inr (0, [none, some (some 6), some (some 7), some (some 8), none, none, none, none]), .inl 30, .inl 30, .inl 30, .inr (0, [none, some (some 10), some (some 11), some (some 12), none, none, none, none]), .inl 30, .inl 30, .inl 30, .inr (2, [some (some 2), some (some 14), some (some 15), some (some 16), some (some 17), some (some 18), none, none, none, none]), .inl 150, .inl 750, .inl 150, .inl 5, .inl 30, .inr (1, [some (some 20), some (some 21), some (some 22), some (some 23), none]), .inl 6, .inl 6, .inl 6, .inl 6, .inr (5, [some (some 25), some (some 26), some (some 27), some (some 28), some (some 29), some (some 30), none, none, some (some 31), some (some 32), none, none, none, some (some 33), some (some 34), some (some 35), some (some 36), some (some 37), none, none, some (some 38), some (some 39), some (some 40), some (some 41), some (some 42), none, some none, some none, some none, some none]), .inl 60, .inl 60, .inl 46, .inl 46, .inl 46, .inl 7, .inl 30, .inl 30, .inl 6, .inl 6, .inl 180, .inl 180, .inl 6, .inl 2, .inl 60, .inl 2, .inl 2, .inl 2]
def YM19 (N : Nat) : Ly := [.inl N, .inr (4, [some (some 2), some (some 5), some (some 9), some (some 13), some (some 19)]), .inr (3, [some (some 3), some (some 4)]), .inl 7, .inl 30, .inr (0, [none, some (some 6), some (some 7), some (some 8), none, none, none, none]), .inl 30, .inl 30, .inl 30, .inr (0, [none, some (some 10), some (some 11), some (some 12), none, none, none, none]), .inl 30, .inl 30, .inl 30, .inr (2, [some (some 2), some (some 14), some (some 15), some (some 16), some (some 17), some (some 18), none, none, none, none]), .inl 150, .inl 750, .inl 150, .inl 5, .inl 30, .inr (1, [some (some 20), some (some 21), some (some 22), some (some 23), none]), .inl 6, .inl 6, .inl 6, .inl 6, .inr (5, [some (some 25), some (some 26), some (some 27), some (some 28), some (some 29), some (some 30), none, none, some (some 31), some (some 32), none, none, none, some (some 33), some (some 34), some (some 35), some (some 36), some (some 37), none, none, some (some 38), some (some 39), some (some 40), some (some 41), some (some 42), none, some none, some none, some none, some none]), .inl 60, .inl 60, .inl 46, .inl 46, .inl 46, .inl 7, .inl 30, .inl 30, .inl 6, .inl 6, .inl 180, .inl 180, .inl 6, .inl 2, .inl 60, .inl 2, .inl 2, .inl 2, .inl 6]
def YM19q (N : Nat) : Ly := [.inl N, .inr (4, [some (some 2), some (some 5), some (some 9), some (some 13), some (some 19)]), .inr (3, [some (some 3), some (some 4)]), .inl 7, .inl 30, .inr (0, [none, some (some 6), some (some 7), some (some 8), none, none, none, none]), .inl 30, .inl 30, .inl 30, .inr (0, [none, some (some 10), some (some 11), some (some 12), none, none, none, none]), .inl 30, .inl 30, .inl 30, .inr (2, [some (some 2), some (some 14), some (some 15), some (some 16), some (some 17), some (some 18), none, none, none, none]), .inl 150, .inl 750, .inl 150, .inl 5, .inl 30, .inr (1, [some (some 20), some (some 21), some (some 22), some (some 23), none]), .inl 6, .inl 6, .inl 6, .inl 6, .inr (5, [some (some 25), some (some 26), some (some 27), some (some 28), some (some 29), some (some 30), none, none, some (some 31), some (some 32), none, none, none, some (some 33), some (some 34), some (some 35), some (some 36), some (some 37), none, none, some (some 38), some (some 39), some (some 40), some (some 41), some (some 42), none, some (some 43), some none, some none, some none]), .inl 60, .inl 60, .inl 46, .inl 46, .inl 46, .inl 7, .inl 30, .inl 30, .inl 6, .inl 6, .inl 180, .inl 180, .inl 6, .inl 2, .inl 60, .inl 2, .inl 2, .inl 2, .inl 6]
def YM20 (N : Nat) : Ly := [.inl N, .inr (4, [some (some 2), some (some 5), some (some 9), some (some 13), some (some 19)]), .inr (3, [some (some 3), some (some 4)]), .inl 7, .inl 30, .inr (0, [none, some (some 6), some (some 7), some (some 8), none, none, none, none]), .inl 30, .inl 30, .inl 30, .inr (0, [none, some (some 10), some (some 11), some (some 12), none, none, none, none]), .inl 30, .inl 30, .inl 30, .inr (2, [some (some 2), some (some 14), some (some 15), some (some 16), some (some 17), some (some 18), none, none, none, none]), .inl 150, .inl 750, .inl 150, .inl 5, .inl 30, .inr (1, [some (some 20), some (some 21), some (some 22), some (some 23), none]), .inl 6, .inl 6, .inl 6, .inl 6, .inr (5, [some (some 25), some (some 26), some (some 27), some (some 28), some (some 29), some (some 30), none, none, some (some 31), some (some 32), none, none, none, some (some 33), some (some 34), some (some 35), some (some 36), some (some 37), none, none, some (some 38), some (some 39), some (some 40), some (some 41), some (some 42), none, some (some 43), some none, some none, some none]), .inl 60, .inl 60, .inl 46, .inl 46, .inl 46, .inl 7, .inl 30, .inl 30, .inl 6, .inl 6, .inl 180, .inl 180, .inl 6, .inl 2, .inl 60, .inl 2, .inl 2, .inl 2, .inl 6, .inl 6]
def YM20q (N : Nat) : Ly := [.inl N, .inr (4, [some (some 2), some (some 5), some (some 9), some (some 13), some (some 19)]), .inr (3, [some (some 3), some (some 4)]), .inl 7, .inl 30, .inr (0, [none, some (some 6), some (some 7), some (some 8), none, none, none, none]), .inl 30, .inl 30, .inl 30, .inr (0, [none, some (some 10), some (some 11), some (some 12), none, none, none, none]), .inl 30, .inl 30, .inl 30, .inr (2, [some (some 2), some (some 14), some (some 15), some (some 16), some (some 17), some (some 18), none, none, none, none]), .inl 150, .inl 750, .inl 150, .inl 5, .inl 30, .inr (1, [some (some 20), some (some 21), some (some 22), some (some 23), none]), .inl 6, .inl 6, .inl 6, .inl 6, .inr (5, [some (some 25), some (some 26), some (some 27), some (some 28), some (some 29), some (some 30), none, none, some (some 31), some (some 32), none, none, none, some (some 33), some (some 34), some (some 35), some (some 36), some (some 37), none, none, some (some 38), some (some 39), some (some 40), some (some 41), some (some 42), none, some (some 43), some (some 44), some none, some none]), .inl 60, .inl 60, .inl 46, .inl 46, .inl 46, .inl 7, .inl 30, .inl 30, .inl 6, .inl 6, .inl 180, .inl 180, .inl 6, .inl 2, .inl 60, .inl 2, .inl 2, .inl 2, .inl 6, .inl 6]
def YM21 (N : Nat) : Ly := [.inl N, .inr (4, [some (some 2), some (some 5), some (some 9), some (some 13), some (some 19)]), .inr (3, [some (some 3), some (some 4)]), .inl 7, .inl 30, .inr (0, [none, some (some 6), some (some 7), some (some 8), none, none, none, none]), .inl 30, .inl 30, .inl 30, .inr (0, [none, some (some 10), some (some 11), some (some 12), none, none, none, none]), .inl 30, .inl 30, .inl 30, .inr (2, [some (some 2), some (some 14), some (some 15), some (some 16), some (some 17), some (some 18), none, none, none, none]), .inl 150, .inl 750, .inl 150, .inl 5, .inl 30, .inr (1, [some (some 20), some (some 21), some (some 22), some (some 23), none]), .inl 6, .inl 6, .inl 6, .inl 6, .inr (5, [some (some 25), some (some 26), some (some 27), some (some 28), some (some 29), some (some 30), none, none, some (some 31), some (some 32), none, none, none, some (some 33), some (some 34), some (some 35), some (some 36), some (some 37), none, none, some (some 38), some (some 39), some (some 40), some (some 41), some (some 42), none, some (some 43), some (some 44), some none, some none]), .inl 60, .inl 60, .inl 46, .inl 46, .inl 46, .inl 7, .inl 30, .inl 30, .inl 6, .inl 6, .inl 180, .inl 180, .inl 6, .inl 2, .inl 60, .inl 2, .inl 2, .inl 2, .inl 6, .inl 6, .inl 6]
def YM21q (N : Nat) : Ly := [.inl N, .inr (4, [some (some 2), some (some 5), some (some 9), some (some 13), some (some 19)]), .inr (3, [some (some 3), some (some 4)]), .inl 7, .inl 30, .inr (0, [none, some (some 6), some (some 7), some (some 8), none, none, none, none]), .inl 30, .inl 30, .inl 30, .inr (0, [none, some (some 10), some (some 11), some (some 12), none, none, none, none]), .inl 30, .inl 30, .inl 30, .inr (2, [some (some 2), some (some 14), some (some 15), some (some 16), some (some 17), some (some 18), none, none, none, none]), .inl 150, .inl 750, .inl 150, .inl 5, .inl 30, .inr (1, [some (some 20), some (some 21), some (some 22), some (some 23), none]), .inl 6, .inl 6, .inl 6, .inl 6, .inr (5, [some (some 25), some (some 26), some (some 27), some (some 28), some (some 29), some (some 30), none, none, some (some 31), some (some 32), none, none, none, some (some 33), some (some 34), some (some 35), some (some 36), some (some 37), none, none, some (some 38), some (some 39), some (some 40), some (some 41), some (some 42), none, some (some 43), some (some 44), some (some 45), some none]), .inl 60, .inl 60, .inl 46, .inl 46, .inl 46, .inl 7, .inl 30, .inl 30, .inl 6, .inl 6, .inl 180, .inl 180, .inl 6, .inl 2, .inl 60, .inl 2, .inl 2, .inl 2, .inl 6, .inl 6, .inl 6]
def YM22 (N : Nat) : Ly := [.inl N, .inr (4, [some (some 2), some (some 5), some (some 9), some (some 13), some (some 19)]), .inr (3, [some (some 3), some (some 4)]), .inl 7, .inl 30, .inr (0, [none, some (some 6), some (some 7), some (some 8), none, none, none, none]), .inl 30, .inl 30, .inl 30, .inr (0, [none, some (some 10), some (some 11), some (some 12), none, none, none, none]), .inl 30, .inl 30, .inl 30, .inr (2, [some (some 2), some (some 14), some (some 15), some (some 16), some (some 17), some (some 18), none, none, none, none]), .inl 150, .inl 750, .inl 150, .inl 5, .inl 30, .inr (1, [some (some 20), some (some 21), some (some 22), some (some 23), none]), .inl 6, .inl 6, .inl 6, .inl 6, .inr (5, [some (some 25), some (some 26), some (some 27), some (some 28), some (some 29), some (some 30), none, none, some (some 31), some (some 32), none, none, none, some (some 33), some (some 34), some (some 35), some (some 36), some (some 37), none, none, some (some 38), some (some 39), some (some 40), some (some 41), some (some 42), none, some (some 43), some (some 44), some (some 45), some none]), .inl 60, .inl 60, .inl 46, .inl 46, .inl 46, .inl 7, .inl 30, .inl 30, .inl 6, .inl 6, .inl 180, .inl 180, .inl 6, .inl 2, .inl 60, .inl 2, .inl 2, .inl 2, .inl 6, .inl 6, .inl 6, .inl 6]
def mA27_0 (M : Mm) : Mm := (mset (mset (mset (mset (mset (mset (mset (mset M 27 0 0) 27 1 0) 27 2 0) 27 3 0) 27 4 0) 27 5 0) 27 6 0) 27 7 0)
def mA27_1 (M : Mm) : Mm := (mset (mset (mset (mset (mset (mset (mset (mset M 27 8 0) 27 9 0) 27 10 0) 27 11 0) 27 12 1) 27 13 2) 27 14 3) 27 15 5)
def mA27_2 (M : Mm) : Mm := (mset (mset (mset (mset (mset (mset (mset (mset M 27 16 0) 27 17 0) 27 18 0) 27 19 0) 27 20 0) 27 21 0) 27 22 0) 27 23 1)
def mA27_3 (M : Mm) : Mm := (mset (mset (mset (mset (mset (mset (mset (mset M 27 24 2) 27 25 3) 27 26 0) 27 27 0) 27 28 0) 27 29 0) 27 30 0) 27 31 0)
def mA27_4 (M : Mm) : Mm := (mset (mset (mset (mset (mset (mset (mset (mset M 27 32 0) 27 33 0) 27 34 1) 27 35 2) 27 36 0) 27 37 0) 27 38 0) 27 39 0)
def mA27_5 (M : Mm) : Mm := (mset (mset (mset (mset (mset (mset M 27 40 0) 27 41 0) 27 42 0) 27 43 0) 27 44 0) 27 45 1)
def mA28_0 (M : Mm) : Mm := (mset (mset (mset (mset (mset (mset (mset (mset M 28 0 0) 28 1 0) 28 2 0) 28 3 0) 28 4 0) 28 5 0) 28 6 0) 28 7 0)
def mA28_1 (M : Mm) : Mm := (mset (mset (mset (mset (mset (mset (mset (mset M 28 8 0) 28 9 0) 28 10 0) 28 11 0) 28 12 5) 28 13 7) 28 14 9) 28 15 11)
def mA28_2 (M : Mm) : Mm := (mset (mset (mset (mset (mset (mset (mset (mset M 28 16 0) 28 17 0) 28 18 0) 28 19 0) 28 20 0) 28 21 0) 28 22 0) 28 23 2)
def mA28_3 (M : Mm) : Mm := (mset (mset (mset (mset (mset (mset (mset (mset M 28 24 4) 28 25 6) 28 26 0) 28 27 0) 28 28 0) 28 29 0) 28 30 0) 28 31 0)
def mA28_4 (M : Mm) : Mm := (mset (mset (mset (mset (mset (mset (mset (mset M 28 32 0) 28 33 0) 28 34 2) 28 35 4) 28 36 0) 28 37 0) 28 38 0) 28 39 0)
def mA28_5 (M : Mm) : Mm := (mset (mset (mset (mset (mset (mset M 28 40 0) 28 41 0) 28 42 0) 28 43 0) 28 44 0) 28 45 2)
def mA29_0 (M : Mm) : Mm := (mset (mset (mset (mset (mset (mset (mset (mset M 29 0 0) 29 1 0) 29 2 0) 29 3 0) 29 4 0) 29 5 0) 29 6 0) 29 7 0)
def mA29_1 (M : Mm) : Mm := (mset (mset (mset (mset (mset (mset (mset (mset M 29 8 0) 29 9 0) 29 10 0) 29 11 0) 29 12 8) 29 13 10) 29 14 12) 29 15 14)
def mA29_2 (M : Mm) : Mm := (mset (mset (mset (mset (mset (mset (mset (mset M 29 16 0) 29 17 0) 29 18 0) 29 19 0) 29 20 0) 29 21 0) 29 22 0) 29 23 4)
def mA29_3 (M : Mm) : Mm := (mset (mset (mset (mset (mset (mset (mset (mset M 29 24 6) 29 25 9) 29 26 0) 29 27 0) 29 28 0) 29 29 0) 29 30 0) 29 31 0)
def mA29_4 (M : Mm) : Mm := (mset (mset (mset (mset (mset (mset (mset (mset M 29 32 0) 29 33 0) 29 34 3) 29 35 6) 29 36 0) 29 37 0) 29 38 0) 29 39 0)
def mA29_5 (M : Mm) : Mm := (mset (mset (mset (mset (mset (mset M 29 40 0) 29 41 0) 29 42 0) 29 43 0) 29 44 0) 29 45 4)
def mA30_0 (M : Mm) : Mm := (mset (mset (mset (mset (mset (mset (mset M 30 0 3) 30 1 1) 30 2 2) 30 3 8) 30 4 3) 30 5 1) 30 6 1)
/-- the rows of the reference, made -/
def MM (M : Mm) : Mm := (mzero (mzero (mzero (mzero (mzero (mzero (mzero (mzero (mzero (mzero (mzero (mzero (mzero (mzero (mzero (mzero (mA30_0 (mzero (mA29_5 (mA29_4 (mA29_3 (mA29_2 (mA29_1 (mA29_0 (mzero (mA28_5 (mA28_4 (mA28_3 (mA28_2 (mA28_1 (mA28_0 (mzero (mA27_5 (mA27_4 (mA27_3 (mA27_2 (mA27_1 (mA27_0 (mzero (mzero (mzero M 25) 26) 27))))))) 28))))))) 29))))))) 30)) 31) 32) 33) 34) 35) 36) 37) 38) 39) 40) 41) 42) 43) 44) 45) 46)
set_option maxRecDepth 100000 in
def pMi_0 : List En := [(0, .aload_n 0, 1, []),
  (1, .invokespecial 1, 4, []),
  (4, .aload_n 0, 5, []),
  (5, .bipush 60, 7, []),
  (7, .newarray .int, 9, [])]
set_option maxRecDepth 100000 in
theorem mo_pMi_0 : MO mM_init 5 true none pMi_0 := ⟨rM_init, rfl, rfl, by decide, rfl, (fun _ => rfl), (by decide +kernel)⟩
set_option maxRecDepth 100000 in
def pMi_1 : List En := [(9, .putfield 7, 12, []),
  (12, .aload_n 0, 13, []),
  (13, .bipush 60, 15, []),
  (15, .newarray .int, 17, [])]
set_option maxRecDepth 100000 in
theorem mo_pMi_1 : MO mM_init 5 true none pMi_1 := ⟨rM_init, rfl, rfl, by decide, rfl, (fun _ => rfl), (by decide +kernel)⟩
set_option maxRecDepth 100000 in
def pMi_2 : List En := [(17, .putfield 13, 20, []),
  (20, .aload_n 0, 21, []),
  (21, .bipush 46, 23, []),
  (23, .newarray .int, 25, [])]
set_option maxRecDepth 100000 in
theorem mo_pMi_2 : MO mM_init 5 true none pMi_2 := ⟨rM_init, rfl, rfl, by decide, rfl, (fun _ => rfl), (by decide +kernel)⟩
set_option maxRecDepth 100000 in
def pMi_2_0 : List En := [(25, .dup, 26, []),
  (26, .iconst 0, 27, []),
  (27, .iconst 0, 28, []),
  (28, .iastore, 29, []),
  (29, .dup, 30, []),
  (30, .iconst 1, 31, []),
  (31, .iconst 0, 32, []),
  (32, .iastore, 33, []),
  (33, .dup, 34, []),
  (34, .iconst 2, 35, []),
  (35, .iconst 0, 36, []),
  (36, .iastore, 37, []),
  (37, .dup, 38, []),
  (38, .iconst 3, 39, []),
  (39, .iconst 0, 40, []),
  (40, .iastore, 41, []),
  (41, .dup, 42, []),
  (42, .iconst 4, 43, []),
  (43, .iconst 0, 44, []),
  (44, .iastore, 45, []),
  (45, .dup, 46, []),
  (46, .iconst 5, 47, []),
  (47, .iconst 0, 48, []),
  (48, .iastore, 49, []),
  (49, .dup, 50, []),
  (50, .bipush 6, 52, []),
  (52, .iconst 0, 53, []),
  (53, .iastore, 54, []),
  (54, .dup, 55, []),
  (55, .bipush 7, 57, []),
  (57, .iconst 0, 58, []),
  (58, .iastore, 59, [])]
set_option maxRecDepth 100000 in
theorem mo_pMi_2_0 : MO mM_init 5 true none pMi_2_0 := ⟨rM_init, rfl, rfl, by decide, rfl, (fun _ => rfl), (by decide +kernel)⟩
set_option maxRecDepth 100000 in
def pMi_2_1 : List En := [(59, .dup, 60, []),
  (60, .bipush 8, 62, []),
  (62, .iconst 0, 63, []),
  (63, .iastore, 64, []),
  (64, .dup, 65, []),
  (65, .bipush 9, 67, []),
  (67, .iconst 0, 68, []),
  (68, .iastore, 69, []),
  (69, .dup, 70, []),
  (70, .bipush 10, 72, []),
  (72, .iconst 0, 73, []),
  (73, .iastore, 74, []),
  (74, .dup, 75, []),
  (75, .bipush 11, 77, []),
  (77, .iconst 0, 78, []),
  (78, .iastore, 79, []),
  (79, .dup, 80, []),
  (80, .bipush 12, 82, []),
  (82, .iconst 1, 83, []),
  (83, .iastore, 84, []),
  (84, .dup, 85, []),
  (85, .bipush 13, 87, []),
  (87, .iconst 2, 88, []),
  (88, .iastore, 89, []),
  (89, .dup, 90, []),
  (90, .bipush 14, 92, []),
  (92, .iconst 3, 93, []),
  (93, .iastore, 94, []),
  (94, .dup, 95, []),
  (95, .bipush 15, 97, []),
  (97, .iconst 5, 98, []),
  (98, .iastore, 99, [])]
set_option maxRecDepth 100000 in
theorem mo_pMi_2_1 : MO mM_init 5 true none pMi_2_1 := ⟨rM_init, rfl, rfl, by decide, rfl, (fun _ => rfl), (by decide +kernel)⟩
set_option maxRecDepth 100000 in
def pMi_2_2 : List En := [(99, .dup, 100, []),
  (100, .bipush 16, 102, []),
  (102, .iconst 0, 103, []),
  (103, .iastore, 104, []),
  (104, .dup, 105, []),
  (105, .bipush 17, 107, []),
  (107, .iconst 0, 108, []),
  (108, .iastore, 109, []),
  (109, .dup, 110, []),
  (110, .bipush 18, 112, []),
  (112, .iconst 0, 113, []),
  (113, .iastore, 114, []),
  (114, .dup, 115, []),
  (115, .bipush 19, 117, []),
  (117, .iconst 0, 118, []),
  (118, .iastore, 119, []),
  (119, .dup, 120, []),
  (120, .bipush 20, 122, []),
  (122, .iconst 0, 123, []),
  (123, .iastore, 124, []),
  (124, .dup, 125, []),
  (125, .bipush 21, 127, []),
  (127, .iconst 0, 128, []),
  (128, .iastore, 129, []),
  (129, .dup, 130, []),
  (130, .bipush 22, 132, []),
  (132, .iconst 0, 133, []),
  (133, .iastore, 134, []),
  (134, .dup, 135, []),
  (135, .bipush 23, 137, []),
  (137, .iconst 1, 138, []),
  (138, .iastore, 139, [])]
set_option maxRecDepth 100000 in
theorem mo_pMi_2_2 : MO mM_init 5 true none pMi_2_2 := ⟨rM_init, rfl, rfl, by decide, rfl, (fun _ => rfl), (by decide +kernel)⟩
set_option maxRecDepth 100000 in
def pMi_2_3 : List En := [(139, .dup, 140, []),
  (140, .bipush 24, 142, []),
  (142, .iconst 2, 143, []),
  (143, .iastore, 144, []),
  (144, .dup, 145, []),
  (145, .bipush 25, 147, []),
  (147, .iconst 3, 148, []),
  (148, .iastore, 149, []),
  (149, .dup, 150, []),
  (150, .bipush 26, 152, []),
  (152, .iconst 0, 153, []),
  (153, .iastore, 154, []),
  (154, .dup, 155, []),
  (155, .bipush 27, 157, []),
  (157, .iconst 0, 158, []),
  (158, .iastore, 159, []),
  (159, .dup, 160, []),
  (160, .bipush 28, 162, []),
  (162, .iconst 0, 163, []),
  (163, .iastore, 164, []),
  (164, .dup, 165, []),
  (165, .bipush 29, 167, []),
  (167, .iconst 0, 168, []),
  (168, .iastore, 169, []),
  (169, .dup, 170, []),
  (170, .bipush 30, 172, []),
  (172, .iconst 0, 173, []),
  (173, .iastore, 174, []),
  (174, .dup, 175, []),
  (175, .bipush 31, 177, []),
  (177, .iconst 0, 178, []),
  (178, .iastore, 179, [])]
set_option maxRecDepth 100000 in
theorem mo_pMi_2_3 : MO mM_init 5 true none pMi_2_3 := ⟨rM_init, rfl, rfl, by decide, rfl, (fun _ => rfl), (by decide +kernel)⟩
set_option maxRecDepth 100000 in
def pMi_2_4 : List En := [(179, .dup, 180, []),
  (180, .bipush 32, 182, []),
  (182, .iconst 0, 183, []),
  (183, .iastore, 184, []),
  (184, .dup, 185, []),
  (185, .bipush 33, 187, []),
  (187, .iconst 0, 188, []),
  (188, .iastore, 189, []),
  (189, .dup, 190, []),
  (190, .bipush 34, 192, []),
  (192, .iconst 1, 193, []),
  (193, .iastore, 194, []),
  (194, .dup, 195, []),
  (195, .bipush 35, 197, []),
  (197, .iconst 2, 198, []),
  (198, .iastore, 199, []),
  (199, .dup, 200, []),
  (200, .bipush 36, 202, []),
  (202, .iconst 0, 203, []),
  (203, .iastore, 204, []),
  (204, .dup, 205, []),
  (205, .bipush 37, 207, []),
  (207, .iconst 0, 208, []),
  (208, .iastore, 209, []),
  (209, .dup, 210, []),
  (210, .bipush 38, 212, []),
  (212, .iconst 0, 213, []),
  (213, .iastore, 214, []),
  (214, .dup, 215, []),
  (215, .bipush 39, 217, []),
  (217, .iconst 0, 218, []),
  (218, .iastore, 219, [])]
set_option maxRecDepth 100000 in
theorem mo_pMi_2_4 : MO mM_init 5 true none pMi_2_4 := ⟨rM_init, rfl, rfl, by decide, rfl, (fun _ => rfl), (by decide +kernel)⟩
set_option maxRecDepth 100000 in
def pMi_2_5 : List En := [(219, .dup, 220, []),
  (220, .bipush 40, 222, []),
  (222, .iconst 0, 223, []),
  (223, .iastore, 224, []),
  (224, .dup, 225, []),
  (225, .bipush 41, 227, []),
  (227, .iconst 0, 228, []),
  (228, .iastore, 229, []),
  (229, .dup, 230, []),
  (230, .bipush 42, 232, []),
  (232, .iconst 0, 233, []),
  (233, .iastore, 234, []),
  (234, .dup, 235, []),
  (235, .bipush 43, 237, []),
  (237, .iconst 0, 238, []),
  (238, .iastore, 239, []),
  (239, .dup, 240, []),
  (240, .bipush 44, 242, []),
  (242, .iconst 0, 243, []),
  (243, .iastore, 244, []),
  (244, .dup, 245, []),
  (245, .bipush 45, 247, []),
  (247, .iconst 1, 248, []),
  (248, .iastore, 249, [])]
set_option maxRecDepth 100000 in
theorem mo_pMi_2_5 : MO mM_init 5 true none pMi_2_5 := ⟨rM_init, rfl, rfl, by decide, rfl, (fun _ => rfl), (by decide +kernel)⟩
set_option maxRecDepth 100000 in
def pMi_3 : List En := [(249, .putfield 16, 252, []),
  (252, .aload_n 0, 253, []),
  (253, .bipush 46, 255, []),
  (255, .newarray .int, 257, [])]
set_option maxRecDepth 100000 in
theorem mo_pMi_3 : MO mM_init 5 true none pMi_3 := ⟨rM_init, rfl, rfl, by decide, rfl, (fun _ => rfl), (by decide +kernel)⟩
set_option maxRecDepth 100000 in
def pMi_3_0 : List En := [(257, .dup, 258, []),
  (258, .iconst 0, 259, []),
  (259, .iconst 0, 260, []),
  (260, .iastore, 261, []),
  (261, .dup, 262, []),
  (262, .iconst 1, 263, []),
  (263, .iconst 0, 264, []),
  (264, .iastore, 265, []),
  (265, .dup, 266, []),
  (266, .iconst 2, 267, []),
  (267, .iconst 0, 268, []),
  (268, .iastore, 269, []),
  (269, .dup, 270, []),
  (270, .iconst 3, 271, []),
  (271, .iconst 0, 272, []),
  (272, .iastore, 273, []),
  (273, .dup, 274, []),
  (274, .iconst 4, 275, []),
  (275, .iconst 0, 276, []),
  (276, .iastore, 277, []),
  (277, .dup, 278, []),
  (278, .iconst 5, 279, []),
  (279, .iconst 0, 280, []),
  (280, .iastore, 281, []),
  (281, .dup, 282, []),
  (282, .bipush 6, 284, []),
  (284, .iconst 0, 285, []),
  (285, .iastore, 286, []),
  (286, .dup, 287, []),
  (287, .bipush 7, 289, []),
  (289, .iconst 0, 290, []),
  (290, .iastore, 291, [])]
set_option maxRecDepth 100000 in
theorem mo_pMi_3_0 : MO mM_init 5 true none pMi_3_0 := ⟨rM_init, rfl, rfl, by decide, rfl, (fun _ => rfl), (by decide +kernel)⟩
set_option maxRecDepth 100000 in
def pMi_3_1 : List En := [(291, .dup, 292, []),
  (292, .bipush 8, 294, []),
  (294, .iconst 0, 295, []),
  (295, .iastore, 296, []),
  (296, .dup, 297, []),
  (297, .bipush 9, 299, []),
  (299, .iconst 0, 300, []),
  (300, .iastore, 301, []),
  (301, .dup, 302, []),
  (302, .bipush 10, 304, []),
  (304, .iconst 0, 305, []),
  (305, .iastore, 306, []),
  (306, .dup, 307, []),
  (307, .bipush 11, 309, []),
  (309, .iconst 0, 310, []),
  (310, .iastore, 311, []),
  (311, .dup, 312, []),
  (312, .bipush 12, 314, []),
  (314, .iconst 5, 315, []),
  (315, .iastore, 316, []),
  (316, .dup, 317, []),
  (317, .bipush 13, 319, []),
  (319, .bipush 7, 321, []),
  (321, .iastore, 322, []),
  (322, .dup, 323, []),
  (323, .bipush 14, 325, []),
  (325, .bipush 9, 327, []),
  (327, .iastore, 328, []),
  (328, .dup, 329, []),
  (329, .bipush 15, 331, []),
  (331, .bipush 11, 333, []),
  (333, .iastore, 334, [])]
set_option maxRecDepth 100000 in
theorem mo_pMi_3_1 : MO mM_init 5 true none pMi_3_1 := ⟨rM_init, rfl, rfl, by decide, rfl, (fun _ => rfl), (by decide +kernel)⟩
set_option maxRecDepth 100000 in
def pMi_3_2 : List En := [(334, .dup, 335, []),
  (335, .bipush 16, 337, []),
  (337, .iconst 0, 338, []),
  (338, .iastore, 339, []),
  (339, .dup, 340, []),
  (340, .bipush 17, 342, []),
  (342, .iconst 0, 343, []),
  (343, .iastore, 344, []),
  (344, .dup, 345, []),
  (345, .bipush 18, 347, []),
  (347, .iconst 0, 348, []),
  (348, .iastore, 349, []),
  (349, .dup, 350, []),
  (350, .bipush 19, 352, []),
  (352, .iconst 0, 353, []),
  (353, .iastore, 354, []),
  (354, .dup, 355, []),
  (355, .bipush 20, 357, []),
  (357, .iconst 0, 358, []),
  (358, .iastore, 359, []),
  (359, .dup, 360, []),
  (360, .bipush 21, 362, []),
  (362, .iconst 0, 363, []),
  (363, .iastore, 364, []),
  (364, .dup, 365, []),
  (365, .bipush 22, 367, []),
  (367, .iconst 0, 368, []),
  (368, .iastore, 369, []),
  (369, .dup, 370, []),
  (370, .bipush 23, 372, []),
  (372, .iconst 2, 373, []),
  (373, .iastore, 374, [])]
set_option maxRecDepth 100000 in
theorem mo_pMi_3_2 : MO mM_init 5 true none pMi_3_2 := ⟨rM_init, rfl, rfl, by decide, rfl, (fun _ => rfl), (by decide +kernel)⟩
set_option maxRecDepth 100000 in
def pMi_3_3 : List En := [(374, .dup, 375, []),
  (375, .bipush 24, 377, []),
  (377, .iconst 4, 378, []),
  (378, .iastore, 379, []),
  (379, .dup, 380, []),
  (380, .bipush 25, 382, []),
  (382, .bipush 6, 384, []),
  (384, .iastore, 385, []),
  (385, .dup, 386, []),
  (386, .bipush 26, 388, []),
  (388, .iconst 0, 389, []),
  (389, .iastore, 390, []),
  (390, .dup, 391, []),
  (391, .bipush 27, 393, []),
  (393, .iconst 0, 394, []),
  (394, .iastore, 395, []),
  (395, .dup, 396, []),
  (396, .bipush 28, 398, []),
  (398, .iconst 0, 399, []),
  (399, .iastore, 400, []),
  (400, .dup, 401, []),
  (401, .bipush 29, 403, []),
  (403, .iconst 0, 404, []),
  (404, .iastore, 405, []),
  (405, .dup, 406, []),
  (406, .bipush 30, 408, []),
  (408, .iconst 0, 409, []),
  (409, .iastore, 410, []),
  (410, .dup, 411, []),
  (411, .bipush 31, 413, []),
  (413, .iconst 0, 414, []),
  (414, .iastore, 415, [])]
set_option maxRecDepth 100000 in
theorem mo_pMi_3_3 : MO mM_init 5 true none pMi_3_3 := ⟨rM_init, rfl, rfl, by decide, rfl, (fun _ => rfl), (by decide +kernel)⟩
set_option maxRecDepth 100000 in
def pMi_3_4 : List En := [(415, .dup, 416, []),
  (416, .bipush 32, 418, []),
  (418, .iconst 0, 419, []),
  (419, .iastore, 420, []),
  (420, .dup, 421, []),
  (421, .bipush 33, 423, []),
  (423, .iconst 0, 424, []),
  (424, .iastore, 425, []),
  (425, .dup, 426, []),
  (426, .bipush 34, 428, []),
  (428, .iconst 2, 429, []),
  (429, .iastore, 430, []),
  (430, .dup, 431, []),
  (431, .bipush 35, 433, []),
  (433, .iconst 4, 434, []),
  (434, .iastore, 435, []),
  (435, .dup, 436, []),
  (436, .bipush 36, 438, []),
  (438, .iconst 0, 439, []),
  (439, .iastore, 440, []),
  (440, .dup, 441, []),
  (441, .bipush 37, 443, []),
  (443, .iconst 0, 444, []),
  (444, .iastore, 445, []),
  (445, .dup, 446, []),
  (446, .bipush 38, 448, []),
  (448, .iconst 0, 449, []),
  (449, .iastore, 450, []),
  (450, .dup, 451, []),
  (451, .bipush 39, 453, []),
  (453, .iconst 0, 454, []),
  (454, .iastore, 455, [])]
set_option maxRecDepth 100000 in
theorem mo_pMi_3_4 : MO mM_init 5 true none pMi_3_4 := ⟨rM_init, rfl, rfl, by decide, rfl, (fun _ => rfl), (by decide +kernel)⟩
set_option maxRecDepth 100000 in
def pMi_3_5 : List En := [(455, .dup, 456, []),
  (456, .bipush 40, 458, []),
  (458, .iconst 0, 459, []),
  (459, .iastore, 460, []),
  (460, .dup, 461, []),
  (461, .bipush 41, 463, []),
  (463, .iconst 0, 464, []),
  (464, .iastore, 465, []),
  (465, .dup, 466, []),
  (466, .bipush 42, 468, []),
  (468, .iconst 0, 469, []),
  (469, .iastore, 470, []),
  (470, .dup, 471, []),
  (471, .bipush 43, 473, []),
  (473, .iconst 0, 474, []),
  (474, .iastore, 475, []),
  (475, .dup, 476, []),
  (476, .bipush 44, 478, []),
  (478, .iconst 0, 479, []),
  (479, .iastore, 480, []),
  (480, .dup, 481, []),
  (481, .bipush 45, 483, []),
  (483, .iconst 2, 484, []),
  (484, .iastore, 485, [])]
set_option maxRecDepth 100000 in
theorem mo_pMi_3_5 : MO mM_init 5 true none pMi_3_5 := ⟨rM_init, rfl, rfl, by decide, rfl, (fun _ => rfl), (by decide +kernel)⟩
set_option maxRecDepth 100000 in
def pMi_4 : List En := [(485, .putfield 19, 488, []),
  (488, .aload_n 0, 489, []),
  (489, .bipush 46, 491, []),
  (491, .newarray .int, 493, [])]
set_option maxRecDepth 100000 in
theorem mo_pMi_4 : MO mM_init 5 true none pMi_4 := ⟨rM_init, rfl, rfl, by decide, rfl, (fun _ => rfl), (by decide +kernel)⟩
set_option maxRecDepth 100000 in
def pMi_4_0 : List En := [(493, .dup, 494, []),
  (494, .iconst 0, 495, []),
  (495, .iconst 0, 496, []),
  (496, .iastore, 497, []),
  (497, .dup, 498, []),
  (498, .iconst 1, 499, []),
  (499, .iconst 0, 500, []),
  (500, .iastore, 501, []),
  (501, .dup, 502, []),
  (502, .iconst 2, 503, []),
  (503, .iconst 0, 504, []),
  (504, .iastore, 505, []),
  (505, .dup, 506, []),
  (506, .iconst 3, 507, []),
  (507, .iconst 0, 508, []),
  (508, .iastore, 509, []),
  (509, .dup, 510, []),
  (510, .iconst 4, 511, []),
  (511, .iconst 0, 512, []),
  (512, .iastore, 513, []),
  (513, .dup, 514, []),
  (514, .iconst 5, 515, []),
  (515, .iconst 0, 516, []),
  (516, .iastore, 517, []),
  (517, .dup, 518, []),
  (518, .bipush 6, 520, []),
  (520, .iconst 0, 521, []),
  (521, .iastore, 522, []),
  (522, .dup, 523, []),
  (523, .bipush 7, 525, []),
  (525, .iconst 0, 526, []),
  (526, .iastore, 527, [])]
set_option maxRecDepth 100000 in
theorem mo_pMi_4_0 : MO mM_init 5 true none pMi_4_0 := ⟨rM_init, rfl, rfl, by decide, rfl, (fun _ => rfl), (by decide +kernel)⟩
set_option maxRecDepth 100000 in
def pMi_4_1 : List En := [(527, .dup, 528, []),
  (528, .bipush 8, 530, []),
  (530, .iconst 0, 531, []),
  (531, .iastore, 532, []),
  (532, .dup, 533, []),
  (533, .bipush 9, 535, []),
  (535, .iconst 0, 536, []),
  (536, .iastore, 537, []),
  (537, .dup, 538, []),
  (538, .bipush 10, 540, []),
  (540, .iconst 0, 541, []),
  (541, .iastore, 542, []),
  (542, .dup, 543, []),
  (543, .bipush 11, 545, []),
  (545, .iconst 0, 546, []),
  (546, .iastore, 547, []),
  (547, .dup, 548, []),
  (548, .bipush 12, 550, []),
  (550, .bipush 8, 552, []),
  (552, .iastore, 553, []),
  (553, .dup, 554, []),
  (554, .bipush 13, 556, []),
  (556, .bipush 10, 558, []),
  (558, .iastore, 559, []),
  (559, .dup, 560, []),
  (560, .bipush 14, 562, []),
  (562, .bipush 12, 564, []),
  (564, .iastore, 565, []),
  (565, .dup, 566, []),
  (566, .bipush 15, 568, []),
  (568, .bipush 14, 570, []),
  (570, .iastore, 571, [])]
set_option maxRecDepth 100000 in
theorem mo_pMi_4_1 : MO mM_init 5 true none pMi_4_1 := ⟨rM_init, rfl, rfl, by decide, rfl, (fun _ => rfl), (by decide +kernel)⟩
set_option maxRecDepth 100000 in
def pMi_4_2 : List En := [(571, .dup, 572, []),
  (572, .bipush 16, 574, []),
  (574, .iconst 0, 575, []),
  (575, .iastore, 576, []),
  (576, .dup, 577, []),
  (577, .bipush 17, 579, []),
  (579, .iconst 0, 580, []),
  (580, .iastore, 581, []),
  (581, .dup, 582, []),
  (582, .bipush 18, 584, []),
  (584, .iconst 0, 585, []),
  (585, .iastore, 586, []),
  (586, .dup, 587, []),
  (587, .bipush 19, 589, []),
  (589, .iconst 0, 590, []),
  (590, .iastore, 591, []),
  (591, .dup, 592, []),
  (592, .bipush 20, 594, []),
  (594, .iconst 0, 595, []),
  (595, .iastore, 596, []),
  (596, .dup, 597, []),
  (597, .bipush 21, 599, []),
  (599, .iconst 0, 600, []),
  (600, .iastore, 601, []),
  (601, .dup, 602, []),
  (602, .bipush 22, 604, []),
  (604, .iconst 0, 605, []),
  (605, .iastore, 606, []),
  (606, .dup, 607, []),
  (607, .bipush 23, 609, []),
  (609, .iconst 4, 610, []),
  (610, .iastore, 611, [])]
set_option maxRecDepth 100000 in
theorem mo_pMi_4_2 : MO mM_init 5 true none pMi_4_2 := ⟨rM_init, rfl, rfl, by decide, rfl, (fun _ => rfl), (by decide +kernel)⟩
set_option maxRecDepth 100000 in
def pMi_4_3 : List En := [(611, .dup, 612, []),
  (612, .bipush 24, 614, []),
  (614, .bipush 6, 616, []),
  (616, .iastore, 617, []),
  (617, .dup, 618, []),
  (618, .bipush 25, 620, []),
  (620, .bipush 9, 622, []),
  (622, .iastore, 623, []),
  (623, .dup, 624, []),
  (624, .bipush 26, 626, []),
  (626, .iconst 0, 627, []),
  (627, .iastore, 628, []),
  (628, .dup, 629, []),
  (629, .bipush 27, 631, []),
  (631, .iconst 0, 632, []),
  (632, .iastore, 633, []),
  (633, .dup, 634, []),
  (634, .bipush 28, 636, []),
  (636, .iconst 0, 637, []),
  (637, .iastore, 638, []),
  (638, .dup, 639, []),
  (639, .bipush 29, 641, []),
  (641, .iconst 0, 642, []),
  (642, .iastore, 643, []),
  (643, .dup, 644, []),
  (644, .bipush 30, 646, []),
  (646, .iconst 0, 647, []),
  (647, .iastore, 648, []),
  (648, .dup, 649, []),
  (649, .bipush 31, 651, []),
  (651, .iconst 0, 652, []),
  (652, .iastore, 653, [])]
set_option maxRecDepth 100000 in
theorem mo_pMi_4_3 : MO mM_init 5 true none pMi_4_3 := ⟨rM_init, rfl, rfl, by decide, rfl, (fun _ => rfl), (by decide +kernel)⟩
set_option maxRecDepth 100000 in
def pMi_4_4 : List En := [(653, .dup, 654, []),
  (654, .bipush 32, 656, []),
  (656, .iconst 0, 657, []),
  (657, .iastore, 658, []),
  (658, .dup, 659, []),
  (659, .bipush 33, 661, []),
  (661, .iconst 0, 662, []),
  (662, .iastore, 663, []),
  (663, .dup, 664, []),
  (664, .bipush 34, 666, []),
  (666, .iconst 3, 667, []),
  (667, .iastore, 668, []),
  (668, .dup, 669, []),
  (669, .bipush 35, 671, []),
  (671, .bipush 6, 673, []),
  (673, .iastore, 674, []),
  (674, .dup, 675, []),
  (675, .bipush 36, 677, []),
  (677, .iconst 0, 678, []),
  (678, .iastore, 679, []),
  (679, .dup, 680, []),
  (680, .bipush 37, 682, []),
  (682, .iconst 0, 683, []),
  (683, .iastore, 684, []),
  (684, .dup, 685, []),
  (685, .bipush 38, 687, []),
  (687, .iconst 0, 688, []),
  (688, .iastore, 689, []),
  (689, .dup, 690, []),
  (690, .bipush 39, 692, []),
  (692, .iconst 0, 693, []),
  (693, .iastore, 694, [])]
set_option maxRecDepth 100000 in
theorem mo_pMi_4_4 : MO mM_init 5 true none pMi_4_4 := ⟨rM_init, rfl, rfl, by decide, rfl, (fun _ => rfl), (by decide +kernel)⟩
set_option maxRecDepth 100000 in
def pMi_4_5 : List En := [(694, .dup, 695, []),
  (695, .bipush 40, 697, []),
  (697, .iconst 0, 698, []),
  (698, .iastore, 699, []),
  (699, .dup, 700, []),
  (700, .bipush 41, 702, []),
  (702, .iconst 0, 703, []),
  (703, .iastore, 704, []),
  (704, .dup, 705, []),
  (705, .bipush 42, 707, []),
  (707, .iconst 0, 708, []),
  (708, .iastore, 709, []),
  (709, .dup, 710, []),
  (710, .bipush 43, 712, []),
  (712, .iconst 0, 713, []),
  (713, .iastore, 714, []),
  (714, .dup, 715, []),
  (715, .bipush 44, 717, []),
  (717, .iconst 0, 718, []),
  (718, .iastore, 719, []),
  (719, .dup, 720, []),
  (720, .bipush 45, 722, []),
  (722, .iconst 4, 723, []),
  (723, .iastore, 724, [])]
set_option maxRecDepth 100000 in
theorem mo_pMi_4_5 : MO mM_init 5 true none pMi_4_5 := ⟨rM_init, rfl, rfl, by decide, rfl, (fun _ => rfl), (by decide +kernel)⟩
set_option maxRecDepth 100000 in
def pMi_5 : List En := [(724, .putfield 22, 727, []),
  (727, .aload_n 0, 728, []),
  (728, .bipush 7, 730, []),
  (730, .newarray .int, 732, [])]
set_option maxRecDepth 100000 in
theorem mo_pMi_5 : MO mM_init 5 true none pMi_5 := ⟨rM_init, rfl, rfl, by decide, rfl, (fun _ => rfl), (by decide +kernel)⟩
set_option maxRecDepth 100000 in
def pMi_5_0 : List En := [(732, .dup, 733, []),
  (733, .iconst 0, 734, []),
  (734, .iconst 3, 735, []),
  (735, .iastore, 736, []),
  (736, .dup, 737, []),
  (737, .iconst 1, 738, []),
  (738, .iconst 1, 739, []),
  (739, .iastore, 740, []),
  (740, .dup, 741, []),
  (741, .iconst 2, 742, []),
  (742, .iconst 2, 743, []),
  (743, .iastore, 744, []),
  (744, .dup, 745, []),
  (745, .iconst 3, 746, []),
  (746, .bipush 8, 748, []),
  (748, .iastore, 749, []),
  (749, .dup, 750, []),
  (750, .iconst 4, 751, []),
  (751, .iconst 3, 752, []),
  (752, .iastore, 753, []),
  (753, .dup, 754, []),
  (754, .iconst 5, 755, []),
  (755, .iconst 1, 756, []),
  (756, .iastore, 757, []),
  (757, .dup, 758, []),
  (758, .bipush 6, 760, []),
  (760, .iconst 1, 761, []),
  (761, .iastore, 762, [])]
set_option maxRecDepth 100000 in
theorem mo_pMi_5_0 : MO mM_init 5 true none pMi_5_0 := ⟨rM_init, rfl, rfl, by decide, rfl, (fun _ => rfl), (by decide +kernel)⟩
set_option maxRecDepth 100000 in
def pMi_6 : List En := [(762, .putfield 25, 765, []),
  (765, .aload_n 0, 766, []),
  (766, .bipush 30, 768, []),
  (768, .newarray .int, 770, [])]
set_option maxRecDepth 100000 in
theorem mo_pMi_6 : MO mM_init 5 true none pMi_6 := ⟨rM_init, rfl, rfl, by decide, rfl, (fun _ => rfl), (by decide +kernel)⟩
set_option maxRecDepth 100000 in
def pMi_7 : List En := [(770, .putfield 28, 773, []),
  (773, .aload_n 0, 774, []),
  (774, .bipush 30, 776, []),
  (776, .newarray .int, 778, [])]
set_option maxRecDepth 100000 in
theorem mo_pMi_7 : MO mM_init 5 true none pMi_7 := ⟨rM_init, rfl, rfl, by decide, rfl, (fun _ => rfl), (by decide +kernel)⟩
set_option maxRecDepth 100000 in
def pMi_8 : List En := [(778, .putfield 31, 781, []),
  (781, .aload_n 0, 782, []),
  (782, .bipush 6, 784, []),
  (784, .newarray .int, 786, [])]
set_option maxRecDepth 100000 in
theorem mo_pMi_8 : MO mM_init 5 true none pMi_8 := ⟨rM_init, rfl, rfl, by decide, rfl, (fun _ => rfl), (by decide +kernel)⟩
set_option maxRecDepth 100000 in
def pMi_9 : List En := [(786, .putfield 34, 789, []),
  (789, .aload_n 0, 790, []),
  (790, .bipush 6, 792, []),
  (792, .newarray .int, 794, [])]
set_option maxRecDepth 100000 in
theorem mo_pMi_9 : MO mM_init 5 true none pMi_9 := ⟨rM_init, rfl, rfl, by decide, rfl, (fun _ => rfl), (by decide +kernel)⟩
set_option maxRecDepth 100000 in
def pMi_10 : List En := [(794, .putfield 37, 797, []),
  (797, .aload_n 0, 798, []),
  (798, .sipush 180, 801, []),
  (801, .newarray .int, 803, [])]
set_option maxRecDepth 100000 in
theorem mo_pMi_10 : MO mM_init 5 true none pMi_10 := ⟨rM_init, rfl, rfl, by decide, rfl, (fun _ => rfl), (by decide +kernel)⟩
set_option maxRecDepth 100000 in
def pMi_11 : List En := [(803, .putfield 40, 806, []),
  (806, .aload_n 0, 807, []),
  (807, .sipush 180, 810, []),
  (810, .newarray .int, 812, [])]
set_option maxRecDepth 100000 in
theorem mo_pMi_11 : MO mM_init 5 true none pMi_11 := ⟨rM_init, rfl, rfl, by decide, rfl, (fun _ => rfl), (by decide +kernel)⟩
set_option maxRecDepth 100000 in
def pMi_12 : List En := [(812, .putfield 43, 815, []),
  (815, .aload_n 0, 816, []),
  (816, .bipush 6, 818, []),
  (818, .newarray .int, 820, [])]
set_option maxRecDepth 100000 in
theorem mo_pMi_12 : MO mM_init 5 true none pMi_12 := ⟨rM_init, rfl, rfl, by decide, rfl, (fun _ => rfl), (by decide +kernel)⟩
set_option maxRecDepth 100000 in
def pMi_13 : List En := [(820, .putfield 46, 823, []),
  (823, .aload_n 0, 824, []),
  (824, .iconst 2, 825, []),
  (825, .newarray .int, 827, [])]
set_option maxRecDepth 100000 in
theorem mo_pMi_13 : MO mM_init 5 true none pMi_13 := ⟨rM_init, rfl, rfl, by decide, rfl, (fun _ => rfl), (by decide +kernel)⟩
set_option maxRecDepth 100000 in
def pMi_14 : List En := [(827, .putfield 49, 830, []),
  (830, .aload_n 0, 831, []),
  (831, .bipush 60, 833, []),
  (833, .newarray .int, 835, [])]
set_option maxRecDepth 100000 in
theorem mo_pMi_14 : MO mM_init 5 true none pMi_14 := ⟨rM_init, rfl, rfl, by decide, rfl, (fun _ => rfl), (by decide +kernel)⟩
set_option maxRecDepth 100000 in
def pMi_15 : List En := [(835, .putfield 52, 838, []),
  (838, .aload_n 0, 839, []),
  (839, .iconst 2, 840, []),
  (840, .newarray .int, 842, [])]
set_option maxRecDepth 100000 in
theorem mo_pMi_15 : MO mM_init 5 true none pMi_15 := ⟨rM_init, rfl, rfl, by decide, rfl, (fun _ => rfl), (by decide +kernel)⟩
set_option maxRecDepth 100000 in
def pMi_16 : List En := [(842, .putfield 55, 845, []),
  (845, .aload_n 0, 846, []),
  (846, .iconst 2, 847, []),
  (847, .newarray .int, 849, [])]
set_option maxRecDepth 100000 in
theorem mo_pMi_16 : MO mM_init 5 true none pMi_16 := ⟨rM_init, rfl, rfl, by decide, rfl, (fun _ => rfl), (by decide +kernel)⟩
set_option maxRecDepth 100000 in
def pMi_17 : List En := [(849, .putfield 58, 852, []),
  (852, .aload_n 0, 853, []),
  (853, .iconst 2, 854, []),
  (854, .newarray .int, 856, [])]
set_option maxRecDepth 100000 in
theorem mo_pMi_17 : MO mM_init 5 true none pMi_17 := ⟨rM_init, rfl, rfl, by decide, rfl, (fun _ => rfl), (by decide +kernel)⟩
set_option maxRecDepth 100000 in
def pMi_18 : List En := [(856, .putfield 61, 859, []),
  (859, .aload_n 0, 860, []),
  (860, .bipush 6, 862, []),
  (862, .newarray .int, 864, [])]
set_option maxRecDepth 100000 in
theorem mo_pMi_18 : MO mM_init 5 true none pMi_18 := ⟨rM_init, rfl, rfl, by decide, rfl, (fun _ => rfl), (by decide +kernel)⟩
set_option maxRecDepth 100000 in
def pMi_19 : List En := [(864, .putfield 64, 867, []),
  (867, .aload_n 0, 868, []),
  (868, .bipush 6, 870, []),
  (870, .newarray .int, 872, [])]
set_option maxRecDepth 100000 in
theorem mo_pMi_19 : MO mM_init 5 true none pMi_19 := ⟨rM_init, rfl, rfl, by decide, rfl, (fun _ => rfl), (by decide +kernel)⟩
set_option maxRecDepth 100000 in
def pMi_20 : List En := [(872, .putfield 67, 875, []),
  (875, .aload_n 0, 876, []),
  (876, .bipush 6, 878, []),
  (878, .newarray .int, 880, [])]
set_option maxRecDepth 100000 in
theorem mo_pMi_20 : MO mM_init 5 true none pMi_20 := ⟨rM_init, rfl, rfl, by decide, rfl, (fun _ => rfl), (by decide +kernel)⟩
set_option maxRecDepth 100000 in
def pMi_21 : List En := [(880, .putfield 70, 883, []),
  (883, .aload_n 0, 884, []),
  (884, .bipush 6, 886, []),
  (886, .newarray .int, 888, [])]
set_option maxRecDepth 100000 in
theorem mo_pMi_21 : MO mM_init 5 true none pMi_21 := ⟨rM_init, rfl, rfl, by decide, rfl, (fun _ => rfl), (by decide +kernel)⟩
set_option maxRecDepth 100000 in
def pMi_t : List En := [(888, .putfield 73, 891, []),
  (891, .iconst 0, 892, []),
  (892, .istore_n 1, 893, []),
  (893, .iload_n 1, 894, []),
  (894, .bipush 60, 896, []),
  (896, .if_icmp .ge 25, 899, [(0, 921)]),
  (899, .aload_n 0, 900, []),
  (900, .getfield 7, 903, []),
  (903, .iload_n 1, 904, []),
  (904, .bipush (-9), 906, []),
  (906, .iastore, 907, []),
  (907, .aload_n 0, 908, []),
  (908, .getfield 13, 911, []),
  (911, .iload_n 1, 912, []),
  (912, .bipush (-9), 914, []),
  (914, .iastore, 915, []),
  (915, .iinc 1 1, 918, []),
  (918, .goto (-25), 921, [(0, 893)]),
  (921, .iconst 0, 922, []),
  (922, .istore_n 1, 923, []),
  (923, .iload_n 1, 924, []),
  (924, .iconst 2, 925, []),
  (925, .if_icmp .ge 17, 928, [(0, 942)]),
  (928, .aload_n 0, 929, []),
  (929, .getfield 55, 932, []),
  (932, .iload_n 1, 933, []),
  (933, .bipush (-9), 935, []),
  (935, .iastore, 936, []),
  (936, .iinc 1 1, 939, []),
  (939, .goto (-16), 942, [(0, 923)]),
  (942, .return_, 943, [])]
set_option maxRecDepth 100000 in
theorem mo_pMi_t : MO mM_init 5 true none pMi_t := ⟨rM_init, rfl, rfl, by decide, rfl, (fun _ => rfl), (by decide +kernel)⟩
set_option maxRecDepth 100000 in
theorem i_M_2 {N : Nat} {X : Mm} : ∀ (n i : Nat), i + n = 2 → AJ 1 22 795 mM_init (Vo (S0 N) (flM 40 (-9) X 2)) 22 795 923 [some (.inr 24), some (.inl i)] [] (S0 N) (flM 40 (-9) X i) := by
  intro n
  induction n with
  | zero =>
    intro i hi
    have : i = 2 := by omega
    subst this
    refine sgE mo_pMi_t rfl (by decide) [] 20 (fun hM => ?_)
    exact ⟨by decide, rfl, rfl, rfl⟩
  | succ n ih =>
    intro i hi
    have h2 := ih (i + 1) (by omega)
    rw [show ((i + 1 : Nat) : Int) = (i : Int) + 1 by omega] at h2
    have e : mset (flM 40 (-9) X i) 40 i (-9) = flM 40 (-9) X (i + 1) := fl_step
    refine sgE mo_pMi_t rfl (by decide) [923] 20 (fun hM => ?_)
    refine ⟨by omega, ite_i (fun q => ?_) (fun q => by omega)⟩
    refine ⟨⟨by decide, by omega, by omega, by omega, by decide⟩, ?_⟩
    rw [e]
    exact h2
set_option maxRecDepth 100000 in
theorem i_M_1 {N : Nat} {X : Mm} : ∀ (n i : Nat), i + n = 60 → AJ 1 22 795 mM_init (Vo (S0 N) (flM 40 (-9) (flM 26 (-9) (flM 25 (-9) X 60) 60) 2)) 22 795 893 [some (.inr 24), some (.inl i)] [] (S0 N) (flM 26 (-9) (flM 25 (-9) X i) i) := by
  intro n
  induction n with
  | zero =>
    intro i hi
    have : i = 60 := by omega
    subst this
    have k := i_M_2 (N := N) (X := flM 26 (-9) (flM 25 (-9) X 60) 60) 2 0 (by omega)
    rw [show ((0 : Nat) : Int) = 0 from rfl, fl_0] at k
    refine sgE mo_pMi_t rfl (by decide) [923] 20 (fun hM => ?_)
    exact ⟨by decide, k⟩
  | succ n ih =>
    intro i hi
    have h2 := ih (i + 1) (by omega)
    rw [show ((i + 1 : Nat) : Int) = (i : Int) + 1 by omega] at h2
    have e : mset (mset (flM 26 (-9) (flM 25 (-9) X i) i) 25 i (-9)) 26 i (-9) = flM 26 (-9) (flM 25 (-9) X (i + 1)) (i + 1) := fl_two
    refine sgE mo_pMi_t rfl (by decide) [893] 30 (fun hM => ?_)
    refine ⟨by omega, ite_i (fun q => ?_) (fun q => by omega)⟩
    refine ⟨⟨by decide, by omega, by omega, by omega, by decide⟩, ⟨by decide, by omega, by omega, by omega, by decide⟩, ?_⟩
    rw [e]
    exact h2
set_option maxRecDepth 100000 in
theorem i_M {N : Nat} {M : Mm} : Ret 1 22 795 mM_init [.inr 24] (YM0 N) M (Vo (S0 N) (flM 40 (-9) (flM 26 (-9) (flM 25 (-9) (MM M) 60) 60) 2)) := by
  have i_M_1 := fun (n i : Nat) (h : i + n = 60) => i_M_1 (N := N) (X := MM M) n i h
  have i_M_1 : ∀ (n i : Nat), i + n = 60 → i = 0 → AJ 1 22 795 mM_init (Vo (S0 N) (flM 40 (-9) (flM 26 (-9) (flM 25 (-9) (MM M) 60) 60) 2)) 22 795 893 [some (.inr 24), some (.inl 0)] [] (S0 N) (MM M) := fun n i h h0 => by
    subst h0
    have := i_M_1 n 0 h
    rw [show ((0 : Nat) : Int) = 0 from rfl, fl_0, fl_0] at this
    exact this
  refine Ret.ofAJ (by rw [mtb0_len]; decide) (fun r h => by cases (show some rM_init = some r from h); decide) (fun hM0 => ?_)
  refine sg mo_pMi_0 (by decide) (by decide) [7] 20 (fun hM => ?_)
  show AJ 1 22 795 mM_init _ 0 0 7 [some (.inr 24)] [.inl 60, .inr 24] (YM0q N) M
  refine A_newarr (n := 60) (dce mo_pMi_0 (pc := 7) rfl) (by decide) (by decide) (by decide) ?_
  show AJ 1 22 795 mM_init _ 1 60 9 [some (.inr 24)] [.inr 25, .inr 24] (YM1 N) (mzero M 25)
  refine sg mo_pMi_1 (by decide) (by decide) [15] 20 (fun hM => ?_)
  show AJ 1 22 795 mM_init _ 1 60 15 [some (.inr 24)] [.inl 60, .inr 24] (YM1q N) (mzero M 25)
  refine A_newarr (n := 60) (dce mo_pMi_1 (pc := 15) rfl) (by decide) (by decide) (by decide) ?_
  show AJ 1 22 795 mM_init _ 2 120 17 [some (.inr 24)] [.inr 26, .inr 24] (YM2 N) (mzero (mzero M 25) 26)
  refine sg mo_pMi_2 (by decide) (by decide) [23] 20 (fun hM => ?_)
  show AJ 1 22 795 mM_init _ 2 120 23 [some (.inr 24)] [.inl 46, .inr 24] (YM2q N) (mzero (mzero M 25) 26)
  refine A_newarr (n := 46) (dce mo_pMi_2 (pc := 23) rfl) (by decide) (by decide) (by decide) ?_
  show AJ 1 22 795 mM_init _ 3 166 25 [some (.inr 24)] [.inr 27, .inr 24] (YM3 N) (mzero (mzero (mzero M 25) 26) 27)
  refine sg mo_pMi_2_0 (by decide) (by decide) [59] 60 (fun hM => ?_)
  refine ⟨⟨by decide, by decide, by decide, by decide, by decide⟩, ⟨⟨by decide, by decide, by decide, by decide, by decide⟩, ⟨⟨by decide, by decide, by decide, by decide, by decide⟩, ⟨⟨by decide, by decide, by decide, by decide, by decide⟩, ⟨⟨by decide, by decide, by decide, by decide, by decide⟩, ⟨⟨by decide, by decide, by decide, by decide, by decide⟩, ⟨⟨by decide, by decide, by decide, by decide, by decide⟩, ⟨⟨by decide, by decide, by decide, by decide, by decide⟩, ?_⟩⟩⟩⟩⟩⟩⟩⟩
  show AJ 1 22 795 mM_init _ 3 166 59 [some (.inr 24)] [.inr 27, .inr 24] (YM3 N) (mA27_0 (mzero (mzero (mzero M 25) 26) 27))
  refine sg mo_pMi_2_1 (by decide) (by decide) [99] 60 (fun hM => ?_)
  refine ⟨⟨by decide, by decide, by decide, by decide, by decide⟩, ⟨⟨by decide, by decide, by decide, by decide, by decide⟩, ⟨⟨by decide, by decide, by decide, by decide, by decide⟩, ⟨⟨by decide, by decide, by decide, by decide, by decide⟩, ⟨⟨by decide, by decide, by decide, by decide, by decide⟩, ⟨⟨by decide, by decide, by decide, by decide, by decide⟩, ⟨⟨by decide, by decide, by decide, by decide, by decide⟩, ⟨⟨by decide, by decide, by decide, by decide, by decide⟩, ?_⟩⟩⟩⟩⟩⟩⟩⟩
  show AJ 1 22 795 mM_init _ 3 166 99 [some (.inr 24)] [.inr 27, .inr 24] (YM3 N) (mA27_1 (mA27_0 (mzero (mzero (mzero M 25) 26) 27)))
  refine sg mo_pMi_2_2 (by decide) (by decide) [139] 60 (fun hM => ?_)
  refine ⟨⟨by decide, by decide, by decide, by decide, by decide⟩, ⟨⟨by decide, by decide, by decide, by decide, by decide⟩, ⟨⟨by decide, by decide, by decide, by decide, by decide⟩, ⟨⟨by decide, by decide, by decide, by decide, by decide⟩, ⟨⟨by decide, by decide, by decide, by decide, by decide⟩, ⟨⟨by decide, by decide, by decide, by decide, by decide⟩, ⟨⟨by decide, by decide, by decide, by decide, by decide⟩, ⟨⟨by decide, by decide, by decide, by decide, by decide⟩, ?_⟩⟩⟩⟩⟩⟩⟩⟩
  show AJ 1 22 795 mM_init _ 3 166 139 [some (.inr 24)] [.inr 27, .inr 24] (YM3 N) (mA27_2 (mA27_1 (mA27_0 (mzero (mzero (mzero M 25) 26) 27))))
  refine sg mo_pMi_2_3 (by decide) (by decide) [179] 60 (fun hM => ?_)
  refine ⟨⟨by decide, by decide, by decide, by decide, by decide⟩, ⟨⟨by decide, by decide, by decide, by decide, by decide⟩, ⟨⟨by decide, by decide, by decide, by decide, by decide⟩, ⟨⟨by decide, by decide, by decide, by decide, by decide⟩, ⟨⟨by decide, by decide, by decide, by decide, by decide⟩, ⟨⟨by decide, by decide, by decide, by decide, by decide⟩, ⟨⟨by decide, by decide, by decide, by decide, by decide⟩, ⟨⟨by decide, by decide, by decide, by decide, by decide⟩, ?_⟩⟩⟩⟩⟩⟩⟩⟩
  show AJ 1 22 795 mM_init _ 3 166 179 [some (.inr 24)] [.inr 27, .inr 24] (YM3 N) (mA27_3 (mA27_2 (mA27_1 (mA27_0 (mzero (mzero (mzero M 25) 26) 27)))))
  refine sg mo_pMi_2_4 (by decide) (by decide) [219] 60 (fun hM => ?_)
  refine ⟨⟨by decide, by decide, by decide, by decide, by decide⟩, ⟨⟨by decide, by decide, by decide, by decide, by decide⟩, ⟨⟨by decide, by decide, by decide, by decide, by decide⟩, ⟨⟨by decide, by decide, by decide, by decide, by decide⟩, ⟨⟨by decide, by decide, by decide, by decide, by decide⟩, ⟨⟨by decide, by decide, by decide, by decide, by decide⟩, ⟨⟨by decide, by decide, by decide, by decide, by decide⟩, ⟨⟨by decide, by decide, by decide, by decide, by decide⟩, ?_⟩⟩⟩⟩⟩⟩⟩⟩
  show AJ 1 22 795 mM_init _ 3 166 219 [some (.inr 24)] [.inr 27, .inr 24] (YM3 N) (mA27_4 (mA27_3 (mA27_2 (mA27_1 (mA27_0 (mzero (mzero (mzero M 25) 26) 27))))))
  refine sg mo_pMi_2_5 (by decide) (by decide) [249] 60 (fun hM => ?_)
  refine ⟨⟨by decide, by decide, by decide, by decide, by decide⟩, ⟨⟨by decide, by decide, by decide, by decide, by decide⟩, ⟨⟨by decide, by decide, by decide, by decide, by decide⟩, ⟨⟨by decide, by decide, by decide, by decide, by decide⟩, ⟨⟨by decide, by decide, by decide, by decide, by decide⟩, ⟨⟨by decide, by decide, by decide, by decide, by decide⟩, ?_⟩⟩⟩⟩⟩⟩
  show AJ 1 22 795 mM_init _ 3 166 249 [some (.inr 24)] [.inr 27, .inr 24] (YM3 N) (mA27_5 (mA27_4 (mA27_3 (mA27_2 (mA27_1 (mA27_0 (mzero (mzero (mzero M 25) 26) 27)))))))
  refine sg mo_pMi_3 (by decide) (by decide) [255] 20 (fun hM => ?_)
  show AJ 1 22 795 mM_init _ 3 166 255 [some (.inr 24)] [.inl 46, .inr 24] (YM3q N) (mA27_5 (mA27_4 (mA27_3 (mA27_2 (mA27_1 (mA27_0 (mzero (mzero (mzero M 25) 26) 27)))))))
  refine A_newarr (n := 46) (dce mo_pMi_3 (pc := 255) rfl) (by decide) (by decide) (by decide) ?_
  show AJ 1 22 795 mM_init _ 4 212 257 [some (.inr 24)] [.inr 28, .inr 24] (YM4 N) (mzero (mA27_5 (mA27_4 (mA27_3 (mA27_2 (mA27_1 (mA27_0 (mzero (mzero (mzero M 25) 26) 27))))))) 28)
  refine sg mo_pMi_3_0 (by decide) (by decide) [291] 60 (fun hM => ?_)
  refine ⟨⟨by decide, by decide, by decide, by decide, by decide⟩, ⟨⟨by decide, by decide, by decide, by decide, by decide⟩, ⟨⟨by decide, by decide, by decide, by decide, by decide⟩, ⟨⟨by decide, by decide, by decide, by decide, by decide⟩, ⟨⟨by decide, by decide, by decide, by decide, by decide⟩, ⟨⟨by decide, by decide, by decide, by decide, by decide⟩, ⟨⟨by decide, by decide, by decide, by decide, by decide⟩, ⟨⟨by decide, by decide, by decide, by decide, by decide⟩, ?_⟩⟩⟩⟩⟩⟩⟩⟩
  show AJ 1 22 795 mM_init _ 4 212 291 [some (.inr 24)] [.inr 28, .inr 24] (YM4 N) (mA28_0 (mzero (mA27_5 (mA27_4 (mA27_3 (mA27_2 (mA27_1 (mA27_0 (mzero (mzero (mzero M 25) 26) 27))))))) 28))
  refine sg mo_pMi_3_1 (by decide) (by decide) [334] 60 (fun hM => ?_)
  refine ⟨⟨by decide, by decide, by decide, by decide, by decide⟩, ⟨⟨by decide, by decide, by decide, by decide, by decide⟩, ⟨⟨by decide, by decide, by decide, by decide, by decide⟩, ⟨⟨by decide, by decide, by decide, by decide, by decide⟩, ⟨⟨by decide, by decide, by decide, by decide, by decide⟩, ⟨⟨by decide, by decide, by decide, by decide, by decide⟩, ⟨⟨by decide, by decide, by decide, by decide, by decide⟩, ⟨⟨by decide, by decide, by decide, by decide, by decide⟩, ?_⟩⟩⟩⟩⟩⟩⟩⟩
  show AJ 1 22 795 mM_init _ 4 212 334 [some (.inr 24)] [.inr 28, .inr 24] (YM4 N) (mA28_1 (mA28_0 (mzero (mA27_5 (mA27_4 (mA27_3 (mA27_2 (mA27_1 (mA27_0 (mzero (mzero (mzero M 25) 26) 27))))))) 28)))
  refine sg mo_pMi_3_2 (by decide) (by decide) [374] 60 (fun hM => ?_)
  refine ⟨⟨by decide, by decide, by decide, by decide, by decide⟩, ⟨⟨by decide, by decide, by decide, by decide, by decide⟩, ⟨⟨by decide, by decide, by decide, by decide, by decide⟩, ⟨⟨by decide, by decide, by decide, by decide, by decide⟩, ⟨⟨by decide, by decide, by decide, by decide, by decide⟩, ⟨⟨by decide, by decide, by decide, by decide, by decide⟩, ⟨⟨by decide, by decide, by decide, by decide, by decide⟩, ⟨⟨by decide, by decide, by decide, by decide, by decide⟩, ?_⟩⟩⟩⟩⟩⟩⟩⟩
  show AJ 1 22 795 mM_init _ 4 212 374 [some (.inr 24)] [.inr 28, .inr 24] (YM4 N) (mA28_2 (mA28_1 (mA28_0 (mzero (mA27_5 (mA27_4 (mA27_3 (mA27_2 (mA27_1 (mA27_0 (mzero (mzero (mzero M 25) 26) 27))))))) 28))))
  refine sg mo_pMi_3_3 (by decide) (by decide) [415] 60 (fun hM => ?_)
  refine ⟨⟨by decide, by decide, by decide, by decide, by decide⟩, ⟨⟨by decide, by decide, by decide, by decide, by decide⟩, ⟨⟨by decide, by decide, by decide, by decide, by decide⟩, ⟨⟨by decide, by decide, by decide, by decide, by decide⟩, ⟨⟨by decide, by decide, by decide, by decide, by decide⟩, ⟨⟨by decide, by decide, by decide, by decide, by decide⟩, ⟨⟨by decide, by decide, by decide, by decide, by decide⟩, ⟨⟨by decide, by decide, by decide, by decide, by decide⟩, ?_⟩⟩⟩⟩⟩⟩⟩⟩
  show AJ 1 22 795 mM_init _ 4 212 415 [some (.inr 24)] [.inr 28, .inr 24] (YM4 N) (mA28_3 (mA28_2 (mA28_1 (mA28_0 (mzero (mA27_5 (mA27_4 (mA27_3 (mA27_2 (mA27_1 (mA27_0 (mzero (mzero (mzero M 25) 26) 27))))))) 28)))))
  refine sg mo_pMi_3_4 (by decide) (by decide) [455] 60 (fun hM => ?_)
  refine ⟨⟨by decide, by decide, by decide, by decide, by decide⟩, ⟨⟨by decide, by decide, by decide, by decide, by decide⟩, ⟨⟨by decide, by decide, by decide, by decide, by decide⟩, ⟨⟨by decide, by decide, by decide, by decide, by decide⟩, ⟨⟨by decide, by decide, by decide, by decide, by decide⟩, ⟨⟨by decide, by decide, by decide, by decide, by decide⟩, ⟨⟨by decide, by decide, by decide, by decide, by decide⟩, ⟨⟨by decide, by decide, by decide, by decide, by decide⟩, ?_⟩⟩⟩⟩⟩⟩⟩⟩
  show AJ 1 22 795 mM_init _ 4 212 455 [some (.inr 24)] [.inr 28, .inr 24] (YM4 N) (mA28_4 (mA28_3 (mA28_2 (mA28_1 (mA28_0 (mzero (mA27_5 (mA27_4 (mA27_3 (mA27_2 (mA27_1 (mA27_0 (mzero (mzero (mzero M 25) 26) 27))))))) 28))))))
  refine sg mo_pMi_3_5 (by decide) (by decide) [485] 60 (fun hM => ?_)
  refine ⟨⟨by decide, by decide, by decide, by decide, by decide⟩, ⟨⟨by decide, by decide, by decide, by decide, by decide⟩, ⟨⟨by decide, by decide, by decide, by decide, by decide⟩, ⟨⟨by decide, by decide, by decide, by decide, by decide⟩, ⟨⟨by decide, by decide, by decide, by decide, by decide⟩, ⟨⟨by decide, by decide, by decide, by decide, by decide⟩, ?_⟩⟩⟩⟩⟩⟩
  show AJ 1 22 795 mM_init _ 4 212 485 [some (.inr 24)] [.inr 28, .inr 24] (YM4 N) (mA28_5 (mA28_4 (mA28_3 (mA28_2 (mA28_1 (mA28_0 (mzero (mA27_5 (mA27_4 (mA27_3 (mA27_2 (mA27_1 (mA27_0 (mzero (mzero (mzero M 25) 26) 27))))))) 28)))))))
  refine sg mo_pMi_4 (by decide) (by decide) [491] 20 (fun hM => ?_)
  show AJ 1 22 795 mM_init _ 4 212 491 [some (.inr 24)] [.inl 46, .inr 24] (YM4q N) (mA28_5 (mA28_4 (mA28_3 (mA28_2 (mA28_1 (mA28_0 (mzero (mA27_5 (mA27_4 (mA27_3 (mA27_2 (mA27_1 (mA27_0 (mzero (mzero (mzero M 25) 26) 27))))))) 28)))))))
  refine A_newarr (n := 46) (dce mo_pMi_4 (pc := 491) rfl) (by decide) (by decide) (by decide) ?_
  show AJ 1 22 795 mM_init _ 5 258 493 [some (.inr 24)] [.inr 29, .inr 24] (YM5 N) (mzero (mA28_5 (mA28_4 (mA28_3 (mA28_2 (mA28_1 (mA28_0 (mzero (mA27_5 (mA27_4 (mA27_3 (mA27_2 (mA27_1 (mA27_0 (mzero (mzero (mzero M 25) 26) 27))))))) 28))))))) 29)
  refine sg mo_pMi_4_0 (by decide) (by decide) [527] 60 (fun hM => ?_)
  refine ⟨⟨by decide, by decide, by decide, by decide, by decide⟩, ⟨⟨by decide, by decide, by decide, by decide, by decide⟩, ⟨⟨by decide, by decide, by decide, by decide, by decide⟩, ⟨⟨by decide, by decide, by decide, by decide, by decide⟩, ⟨⟨by decide, by decide, by decide, by decide, by decide⟩, ⟨⟨by decide, by decide, by decide, by decide, by decide⟩, ⟨⟨by decide, by decide, by decide, by decide, by decide⟩, ⟨⟨by decide, by decide, by decide, by decide, by decide⟩, ?_⟩⟩⟩⟩⟩⟩⟩⟩
  show AJ 1 22 795 mM_init _ 5 258 527 [some (.inr 24)] [.inr 29, .inr 24] (YM5 N) (mA29_0 (mzero (mA28_5 (mA28_4 (mA28_3 (mA28_2 (mA28_1 (mA28_0 (mzero (mA27_5 (mA27_4 (mA27_3 (mA27_2 (mA27_1 (mA27_0 (mzero (mzero (mzero M 25) 26) 27))))))) 28))))))) 29))
  refine sg mo_pMi_4_1 (by decide) (by decide) [571] 60 (fun hM => ?_)
  refine ⟨⟨by decide, by decide, by decide, by decide, by decide⟩, ⟨⟨by decide, by decide, by decide, by decide, by decide⟩, ⟨⟨by decide, by decide, by decide, by decide, by decide⟩, ⟨⟨by decide, by decide, by decide, by decide, by decide⟩, ⟨⟨by decide, by decide, by decide, by decide, by decide⟩, ⟨⟨by decide, by decide, by decide, by decide, by decide⟩, ⟨⟨by decide, by decide, by decide, by decide, by decide⟩, ⟨⟨by decide, by decide, by decide, by decide, by decide⟩, ?_⟩⟩⟩⟩⟩⟩⟩⟩
  show AJ 1 22 795 mM_init _ 5 258 571 [some (.inr 24)] [.inr 29, .inr 24] (YM5 N) (mA29_1 (mA29_0 (mzero (mA28_5 (mA28_4 (mA28_3 (mA28_2 (mA28_1 (mA28_0 (mzero (mA27_5 (mA27_4 (mA27_3 (mA27_2 (mA27_1 (mA27_0 (mzero (mzero (mzero M 25) 26) 27))))))) 28))))))) 29)))
  refine sg mo_pMi_4_2 (by decide) (by decide) [611] 60 (fun hM => ?_)
  refine ⟨⟨by decide, by decide, by decide, by decide, by decide⟩, ⟨⟨by decide, by decide, by decide, by decide, by decide⟩, ⟨⟨by decide, by decide, by decide, by decide, by decide⟩, ⟨⟨by decide, by decide, by decide, by decide, by decide⟩, ⟨⟨by decide, by decide, by decide, by decide, by decide⟩, ⟨⟨by decide, by decide, by decide, by decide, by decide⟩, ⟨⟨by decide, by decide, by decide, by decide, by decide⟩, ⟨⟨by decide, by decide, by decide, by decide, by decide⟩, ?_⟩⟩⟩⟩⟩⟩⟩⟩
  show AJ 1 22 795 mM_init _ 5 258 611 [some (.inr 24)] [.inr 29, .inr 24] (YM5 N) (mA29_2 (mA29_1 (mA29_0 (mzero (mA28_5 (mA28_4 (mA28_3 (mA28_2 (mA28_1 (mA28_0 (mzero (mA27_5 (mA27_4 (mA27_3 (mA27_2 (mA27_1 (mA27_0 (mzero (mzero (mzero M 25) 26) 27))))))) 28))))))) 29))))
  refine sg mo_pMi_4_3 (by decide) (by decide) [653] 60 (fun hM => ?_)
  refine ⟨⟨by decide, by decide, by decide, by decide, by decide⟩, ⟨⟨by decide, by decide, by decide, by decide, by decide⟩, ⟨⟨by decide, by decide, by decide, by decide, by decide⟩, ⟨⟨by decide, by decide, by decide, by decide, by decide⟩, ⟨⟨by decide, by decide, by decide, by decide, by decide⟩, ⟨⟨by decide, by decide, by decide, by decide, by decide⟩, ⟨⟨by decide, by decide, by decide, by decide, by decide⟩, ⟨⟨by decide, by decide, by decide, by decide, by decide⟩, ?_⟩⟩⟩⟩⟩⟩⟩⟩
  show AJ 1 22 795 mM_init _ 5 258 653 [some (.inr 24)] [.inr 29, .inr 24] (YM5 N) (mA29_3 (mA29_2 (mA29_1 (mA29_0 (mzero (mA28_5 (mA28_4 (mA28_3 (mA28_2 (mA28_1 (mA28_0 (mzero (mA27_5 (mA27_4 (mA27_3 (mA27_2 (mA27_1 (mA27_0 (mzero (mzero (mzero M 25) 26) 27))))))) 28))))))) 29)))))
  refine sg mo_pMi_4_4 (by decide) (by decide) [694] 60 (fun hM => ?_)
  refine ⟨⟨by decide, by decide, by decide, by decide, by decide⟩, ⟨⟨by decide, by decide, by decide, by decide, by decide⟩, ⟨⟨by decide, by decide, by decide, by decide, by decide⟩, ⟨⟨by decide, by decide, by decide, by decide, by decide⟩, ⟨⟨by decide, by decide, by decide, by decide, by decide⟩, ⟨⟨by decide, by decide, by decide, by decide, by decide⟩, ⟨⟨by decide, by decide, by decide, by decide, by decide⟩, ⟨⟨by decide, by decide, by decide, by decide, by decide⟩, ?_⟩⟩⟩⟩⟩⟩⟩⟩
  show AJ 1 22 795 mM_init _ 5 258 694 [some (.inr 24)] [.inr 29, .inr 24] (YM5 N) (mA29_4 (mA29_3 (mA29_2 (mA29_1 (mA29_0 (mzero (mA28_5 (mA28_4 (mA28_3 (mA28_2 (mA28_1 (mA28_0 (mzero (mA27_5 (mA27_4 (mA27_3 (mA27_2 (mA27_1 (mA27_0 (mzero (mzero (mzero M 25) 26) 27))))))) 28))))))) 29))))))
  refine sg mo_pMi_4_5 (by decide) (by decide) [724] 60 (fun hM => ?_)
  refine ⟨⟨by decide, by decide, by decide, by decide, by decide⟩, ⟨⟨by decide, by decide, by decide, by decide, by decide⟩, ⟨⟨by decide, by decide, by decide, by decide, by decide⟩, ⟨⟨by decide, by decide, by decide, by decide, by decide⟩, ⟨⟨by decide, by decide, by decide, by decide, by decide⟩, ⟨⟨by decide, by decide, by decide, by decide, by decide⟩, ?_⟩⟩⟩⟩⟩⟩
  show AJ 1 22 795 mM_init _ 5 258 724 [some (.inr 24)] [.inr 29, .inr 24] (YM5 N) (mA29_5 (mA29_4 (mA29_3 (mA29_2 (mA29_1 (mA29_0 (mzero (mA28_5 (mA28_4 (mA28_3 (mA28_2 (mA28_1 (mA28_0 (mzero (mA27_5 (mA27_4 (mA27_3 (mA27_2 (mA27_1 (mA27_0 (mzero (mzero (mzero M 25) 26) 27))))))) 28))))))) 29)))))))
  refine sg mo_pMi_5 (by decide) (by decide) [730] 20 (fun hM => ?_)
  show AJ 1 22 795 mM_init _ 5 258 730 [some (.inr 24)] [.inl 7, .inr 24] (YM5q N) (mA29_5 (mA29_4 (mA29_3 (mA29_2 (mA29_1 (mA29_0 (mzero (mA28_5 (mA28_4 (mA28_3 (mA28_2 (mA28_1 (mA28_0 (mzero (mA27_5 (mA27_4 (mA27_3 (mA27_2 (mA27_1 (mA27_0 (mzero (mzero (mzero M 25) 26) 27))))))) 28))))))) 29)))))))
  refine A_newarr (n := 7) (dce mo_pMi_5 (pc := 730) rfl) (by decide) (by decide) (by decide) ?_
  show AJ 1 22 795 mM_init _ 6 265 732 [some (.inr 24)] [.inr 30, .inr 24] (YM6 N) (mzero (mA29_5 (mA29_4 (mA29_3 (mA29_2 (mA29_1 (mA29_0 (mzero (mA28_5 (mA28_4 (mA28_3 (mA28_2 (mA28_1 (mA28_0 (mzero (mA27_5 (mA27_4 (mA27_3 (mA27_2 (mA27_1 (mA27_0 (mzero (mzero (mzero M 25) 26) 27))))))) 28))))))) 29))))))) 30)
  refine sg mo_pMi_5_0 (by decide) (by decide) [762] 60 (fun hM => ?_)
  refine ⟨⟨by decide, by decide, by decide, by decide, by decide⟩, ⟨⟨by decide, by decide, by decide, by decide, by decide⟩, ⟨⟨by decide, by decide, by decide, by decide, by decide⟩, ⟨⟨by decide, by decide, by decide, by decide, by decide⟩, ⟨⟨by decide, by decide, by decide, by decide, by decide⟩, ⟨⟨by decide, by decide, by decide, by decide, by decide⟩, ⟨⟨by decide, by decide, by decide, by decide, by decide⟩, ?_⟩⟩⟩⟩⟩⟩⟩
  show AJ 1 22 795 mM_init _ 6 265 762 [some (.inr 24)] [.inr 30, .inr 24] (YM6 N) (mA30_0 (mzero (mA29_5 (mA29_4 (mA29_3 (mA29_2 (mA29_1 (mA29_0 (mzero (mA28_5 (mA28_4 (mA28_3 (mA28_2 (mA28_1 (mA28_0 (mzero (mA27_5 (mA27_4 (mA27_3 (mA27_2 (mA27_1 (mA27_0 (mzero (mzero (mzero M 25) 26) 27))))))) 28))))))) 29))))))) 30))
  refine sg mo_pMi_6 (by decide) (by decide) [768] 20 (fun hM => ?_)
  show AJ 1 22 795 mM_init _ 6 265 768 [some (.inr 24)] [.inl 30, .inr 24] (YM6q N) (mA30_0 (mzero (mA29_5 (mA29_4 (mA29_3 (mA29_2 (mA29_1 (mA29_0 (mzero (mA28_5 (mA28_4 (mA28_3 (mA28_2 (mA28_1 (mA28_0 (mzero (mA27_5 (mA27_4 (mA27_3 (mA27_2 (mA27_1 (mA27_0 (mzero (mzero (mzero M 25) 26) 27))))))) 28))))))) 29))))))) 30))
  refine A_newarr (n := 30) (dce mo_pMi_6 (pc := 768) rfl) (by decide) (by decide) (by decide) ?_
  show AJ 1 22 795 mM_init _ 7 295 770 [some (.inr 24)] [.inr 31, .inr 24] (YM7 N) (mzero (mA30_0 (mzero (mA29_5 (mA29_4 (mA29_3 (mA29_2 (mA29_1 (mA29_0 (mzero (mA28_5 (mA28_4 (mA28_3 (mA28_2 (mA28_1 (mA28_0 (mzero (mA27_5 (mA27_4 (mA27_3 (mA27_2 (mA27_1 (mA27_0 (mzero (mzero (mzero M 25) 26) 27))))))) 28))))))) 29))))))) 30)) 31)
  refine sg mo_pMi_7 (by decide) (by decide) [776] 20 (fun hM => ?_)
  show AJ 1 22 795 mM_init _ 7 295 776 [some (.inr 24)] [.inl 30, .inr 24] (YM7q N) (mzero (mA30_0 (mzero (mA29_5 (mA29_4 (mA29_3 (mA29_2 (mA29_1 (mA29_0 (mzero (mA28_5 (mA28_4 (mA28_3 (mA28_2 (mA28_1 (mA28_0 (mzero (mA27_5 (mA27_4 (mA27_3 (mA27_2 (mA27_1 (mA27_0 (mzero (mzero (mzero M 25) 26) 27))))))) 28))))))) 29))))))) 30)) 31)
  refine A_newarr (n := 30) (dce mo_pMi_7 (pc := 776) rfl) (by decide) (by decide) (by decide) ?_
  show AJ 1 22 795 mM_init _ 8 325 778 [some (.inr 24)] [.inr 32, .inr 24] (YM8 N) (mzero (mzero (mA30_0 (mzero (mA29_5 (mA29_4 (mA29_3 (mA29_2 (mA29_1 (mA29_0 (mzero (mA28_5 (mA28_4 (mA28_3 (mA28_2 (mA28_1 (mA28_0 (mzero (mA27_5 (mA27_4 (mA27_3 (mA27_2 (mA27_1 (mA27_0 (mzero (mzero (mzero M 25) 26) 27))))))) 28))))))) 29))))))) 30)) 31) 32)
  refine sg mo_pMi_8 (by decide) (by decide) [784] 20 (fun hM => ?_)
  show AJ 1 22 795 mM_init _ 8 325 784 [some (.inr 24)] [.inl 6, .inr 24] (YM8q N) (mzero (mzero (mA30_0 (mzero (mA29_5 (mA29_4 (mA29_3 (mA29_2 (mA29_1 (mA29_0 (mzero (mA28_5 (mA28_4 (mA28_3 (mA28_2 (mA28_1 (mA28_0 (mzero (mA27_5 (mA27_4 (mA27_3 (mA27_2 (mA27_1 (mA27_0 (mzero (mzero (mzero M 25) 26) 27))))))) 28))))))) 29))))))) 30)) 31) 32)
  refine A_newarr (n := 6) (dce mo_pMi_8 (pc := 784) rfl) (by decide) (by decide) (by decide) ?_
  show AJ 1 22 795 mM_init _ 9 331 786 [some (.inr 24)] [.inr 33, .inr 24] (YM9 N) (mzero (mzero (mzero (mA30_0 (mzero (mA29_5 (mA29_4 (mA29_3 (mA29_2 (mA29_1 (mA29_0 (mzero (mA28_5 (mA28_4 (mA28_3 (mA28_2 (mA28_1 (mA28_0 (mzero (mA27_5 (mA27_4 (mA27_3 (mA27_2 (mA27_1 (mA27_0 (mzero (mzero (mzero M 25) 26) 27))))))) 28))))))) 29))))))) 30)) 31) 32) 33)
  refine sg mo_pMi_9 (by decide) (by decide) [792] 20 (fun hM => ?_)
  show AJ 1 22 795 mM_init _ 9 331 792 [some (.inr 24)] [.inl 6, .inr 24] (YM9q N) (mzero (mzero (mzero (mA30_0 (mzero (mA29_5 (mA29_4 (mA29_3 (mA29_2 (mA29_1 (mA29_0 (mzero (mA28_5 (mA28_4 (mA28_3 (mA28_2 (mA28_1 (mA28_0 (mzero (mA27_5 (mA27_4 (mA27_3 (mA27_2 (mA27_1 (mA27_0 (mzero (mzero (mzero M 25) 26) 27))))))) 28))))))) 29))))))) 30)) 31) 32) 33)
  refine A_newarr (n := 6) (dce mo_pMi_9 (pc := 792) rfl) (by decide) (by decide) (by decide) ?_
  show AJ 1 22 795 mM_init _ 10 337 794 [some (.inr 24)] [.inr 34, .inr 24] (YM10 N) (mzero (mzero (mzero (mzero (mA30_0 (mzero (mA29_5 (mA29_4 (mA29_3 (mA29_2 (mA29_1 (mA29_0 (mzero (mA28_5 (mA28_4 (mA28_3 (mA28_2 (mA28_1 (mA28_0 (mzero (mA27_5 (mA27_4 (mA27_3 (mA27_2 (mA27_1 (mA27_0 (mzero (mzero (mzero M 25) 26) 27))))))) 28))))))) 29))))))) 30)) 31) 32) 33) 34)
  refine sg mo_pMi_10 (by decide) (by decide) [801] 20 (fun hM => ?_)
  show AJ 1 22 795 mM_init _ 10 337 801 [some (.inr 24)] [.inl 180, .inr 24] (YM10q N) (mzero (mzero (mzero (mzero (mA30_0 (mzero (mA29_5 (mA29_4 (mA29_3 (mA29_2 (mA29_1 (mA29_0 (mzero (mA28_5 (mA28_4 (mA28_3 (mA28_2 (mA28_1 (mA28_0 (mzero (mA27_5 (mA27_4 (mA27_3 (mA27_2 (mA27_1 (mA27_0 (mzero (mzero (mzero M 25) 26) 27))))))) 28))))))) 29))))))) 30)) 31) 32) 33) 34)
  refine A_newarr (n := 180) (dce mo_pMi_10 (pc := 801) rfl) (by decide) (by decide) (by decide) ?_
  show AJ 1 22 795 mM_init _ 11 517 803 [some (.inr 24)] [.inr 35, .inr 24] (YM11 N) (mzero (mzero (mzero (mzero (mzero (mA30_0 (mzero (mA29_5 (mA29_4 (mA29_3 (mA29_2 (mA29_1 (mA29_0 (mzero (mA28_5 (mA28_4 (mA28_3 (mA28_2 (mA28_1 (mA28_0 (mzero (mA27_5 (mA27_4 (mA27_3 (mA27_2 (mA27_1 (mA27_0 (mzero (mzero (mzero M 25) 26) 27))))))) 28))))))) 29))))))) 30)) 31) 32) 33) 34) 35)
  refine sg mo_pMi_11 (by decide) (by decide) [810] 20 (fun hM => ?_)
  show AJ 1 22 795 mM_init _ 11 517 810 [some (.inr 24)] [.inl 180, .inr 24] (YM11q N) (mzero (mzero (mzero (mzero (mzero (mA30_0 (mzero (mA29_5 (mA29_4 (mA29_3 (mA29_2 (mA29_1 (mA29_0 (mzero (mA28_5 (mA28_4 (mA28_3 (mA28_2 (mA28_1 (mA28_0 (mzero (mA27_5 (mA27_4 (mA27_3 (mA27_2 (mA27_1 (mA27_0 (mzero (mzero (mzero M 25) 26) 27))))))) 28))))))) 29))))))) 30)) 31) 32) 33) 34) 35)
  refine A_newarr (n := 180) (dce mo_pMi_11 (pc := 810) rfl) (by decide) (by decide) (by decide) ?_
  show AJ 1 22 795 mM_init _ 12 697 812 [some (.inr 24)] [.inr 36, .inr 24] (YM12 N) (mzero (mzero (mzero (mzero (mzero (mzero (mA30_0 (mzero (mA29_5 (mA29_4 (mA29_3 (mA29_2 (mA29_1 (mA29_0 (mzero (mA28_5 (mA28_4 (mA28_3 (mA28_2 (mA28_1 (mA28_0 (mzero (mA27_5 (mA27_4 (mA27_3 (mA27_2 (mA27_1 (mA27_0 (mzero (mzero (mzero M 25) 26) 27))))))) 28))))))) 29))))))) 30)) 31) 32) 33) 34) 35) 36)
  refine sg mo_pMi_12 (by decide) (by decide) [818] 20 (fun hM => ?_)
  show AJ 1 22 795 mM_init _ 12 697 818 [some (.inr 24)] [.inl 6, .inr 24] (YM12q N) (mzero (mzero (mzero (mzero (mzero (mzero (mA30_0 (mzero (mA29_5 (mA29_4 (mA29_3 (mA29_2 (mA29_1 (mA29_0 (mzero (mA28_5 (mA28_4 (mA28_3 (mA28_2 (mA28_1 (mA28_0 (mzero (mA27_5 (mA27_4 (mA27_3 (mA27_2 (mA27_1 (mA27_0 (mzero (mzero (mzero M 25) 26) 27))))))) 28))))))) 29))))))) 30)) 31) 32) 33) 34) 35) 36)
  refine A_newarr (n := 6) (dce mo_pMi_12 (pc := 818) rfl) (by decide) (by decide) (by decide) ?_
  show AJ 1 22 795 mM_init _ 13 703 820 [some (.inr 24)] [.inr 37, .inr 24] (YM13 N) (mzero (mzero (mzero (mzero (mzero (mzero (mzero (mA30_0 (mzero (mA29_5 (mA29_4 (mA29_3 (mA29_2 (mA29_1 (mA29_0 (mzero (mA28_5 (mA28_4 (mA28_3 (mA28_2 (mA28_1 (mA28_0 (mzero (mA27_5 (mA27_4 (mA27_3 (mA27_2 (mA27_1 (mA27_0 (mzero (mzero (mzero M 25) 26) 27))))))) 28))))))) 29))))))) 30)) 31) 32) 33) 34) 35) 36) 37)
  refine sg mo_pMi_13 (by decide) (by decide) [825] 20 (fun hM => ?_)
  show AJ 1 22 795 mM_init _ 13 703 825 [some (.inr 24)] [.inl 2, .inr 24] (YM13q N) (mzero (mzero (mzero (mzero (mzero (mzero (mzero (mA30_0 (mzero (mA29_5 (mA29_4 (mA29_3 (mA29_2 (mA29_1 (mA29_0 (mzero (mA28_5 (mA28_4 (mA28_3 (mA28_2 (mA28_1 (mA28_0 (mzero (mA27_5 (mA27_4 (mA27_3 (mA27_2 (mA27_1 (mA27_0 (mzero (mzero (mzero M 25) 26) 27))))))) 28))))))) 29))))))) 30)) 31) 32) 33) 34) 35) 36) 37)
  refine A_newarr (n := 2) (dce mo_pMi_13 (pc := 825) rfl) (by decide) (by decide) (by decide) ?_
  show AJ 1 22 795 mM_init _ 14 705 827 [some (.inr 24)] [.inr 38, .inr 24] (YM14 N) (mzero (mzero (mzero (mzero (mzero (mzero (mzero (mzero (mA30_0 (mzero (mA29_5 (mA29_4 (mA29_3 (mA29_2 (mA29_1 (mA29_0 (mzero (mA28_5 (mA28_4 (mA28_3 (mA28_2 (mA28_1 (mA28_0 (mzero (mA27_5 (mA27_4 (mA27_3 (mA27_2 (mA27_1 (mA27_0 (mzero (mzero (mzero M 25) 26) 27))))))) 28))))))) 29))))))) 30)) 31) 32) 33) 34) 35) 36) 37) 38)
  refine sg mo_pMi_14 (by decide) (by decide) [833] 20 (fun hM => ?_)
  show AJ 1 22 795 mM_init _ 14 705 833 [some (.inr 24)] [.inl 60, .inr 24] (YM14q N) (mzero (mzero (mzero (mzero (mzero (mzero (mzero (mzero (mA30_0 (mzero (mA29_5 (mA29_4 (mA29_3 (mA29_2 (mA29_1 (mA29_0 (mzero (mA28_5 (mA28_4 (mA28_3 (mA28_2 (mA28_1 (mA28_0 (mzero (mA27_5 (mA27_4 (mA27_3 (mA27_2 (mA27_1 (mA27_0 (mzero (mzero (mzero M 25) 26) 27))))))) 28))))))) 29))))))) 30)) 31) 32) 33) 34) 35) 36) 37) 38)
  refine A_newarr (n := 60) (dce mo_pMi_14 (pc := 833) rfl) (by decide) (by decide) (by decide) ?_
  show AJ 1 22 795 mM_init _ 15 765 835 [some (.inr 24)] [.inr 39, .inr 24] (YM15 N) (mzero (mzero (mzero (mzero (mzero (mzero (mzero (mzero (mzero (mA30_0 (mzero (mA29_5 (mA29_4 (mA29_3 (mA29_2 (mA29_1 (mA29_0 (mzero (mA28_5 (mA28_4 (mA28_3 (mA28_2 (mA28_1 (mA28_0 (mzero (mA27_5 (mA27_4 (mA27_3 (mA27_2 (mA27_1 (mA27_0 (mzero (mzero (mzero M 25) 26) 27))))))) 28))))))) 29))))))) 30)) 31) 32) 33) 34) 35) 36) 37) 38) 39)
  refine sg mo_pMi_15 (by decide) (by decide) [840] 20 (fun hM => ?_)
  show AJ 1 22 795 mM_init _ 15 765 840 [some (.inr 24)] [.inl 2, .inr 24] (YM15q N) (mzero (mzero (mzero (mzero (mzero (mzero (mzero (mzero (mzero (mA30_0 (mzero (mA29_5 (mA29_4 (mA29_3 (mA29_2 (mA29_1 (mA29_0 (mzero (mA28_5 (mA28_4 (mA28_3 (mA28_2 (mA28_1 (mA28_0 (mzero (mA27_5 (mA27_4 (mA27_3 (mA27_2 (mA27_1 (mA27_0 (mzero (mzero (mzero M 25) 26) 27))))))) 28))))))) 29))))))) 30)) 31) 32) 33) 34) 35) 36) 37) 38) 39)
  refine A_newarr (n := 2) (dce mo_pMi_15 (pc := 840) rfl) (by decide) (by decide) (by decide) ?_
  show AJ 1 22 795 mM_init _ 16 767 842 [some (.inr 24)] [.inr 40, .inr 24] (YM16 N) (mzero (mzero (mzero (mzero (mzero (mzero (mzero (mzero (mzero (mzero (mA30_0 (mzero (mA29_5 (mA29_4 (mA29_3 (mA29_2 (mA29_1 (mA29_0 (mzero (mA28_5 (mA28_4 (mA28_3 (mA28_2 (mA28_1 (mA28_0 (mzero (mA27_5 (mA27_4 (mA27_3 (mA27_2 (mA27_1 (mA27_0 (mzero (mzero (mzero M 25) 26) 27))))))) 28))))))) 29))))))) 30)) 31) 32) 33) 34) 35) 36) 37) 38) 39) 40)
  refine sg mo_pMi_16 (by decide) (by decide) [847] 20 (fun hM => ?_)
  show AJ 1 22 795 mM_init _ 16 767 847 [some (.inr 24)] [.inl 2, .inr 24] (YM16q N) (mzero (mzero (mzero (mzero (mzero (mzero (mzero (mzero (mzero (mzero (mA30_0 (mzero (mA29_5 (mA29_4 (mA29_3 (mA29_2 (mA29_1 (mA29_0 (mzero (mA28_5 (mA28_4 (mA28_3 (mA28_2 (mA28_1 (mA28_0 (mzero (mA27_5 (mA27_4 (mA27_3 (mA27_2 (mA27_1 (mA27_0 (mzero (mzero (mzero M 25) 26) 27))))))) 28))))))) 29))))))) 30)) 31) 32) 33) 34) 35) 36) 37) 38) 39) 40)
  refine A_newarr (n := 2) (dce mo_pMi_16 (pc := 847) rfl) (by decide) (by decide) (by decide) ?_
  show AJ 1 22 795 mM_init _ 17 769 849 [some (.inr 24)] [.inr 41, .inr 24] (YM17 N) (mzero (mzero (mzero (mzero (mzero (mzero (mzero (mzero (mzero (mzero (mzero (mA30_0 (mzero (mA29_5 (mA29_4 (mA29_3 (mA29_2 (mA29_1 (mA29_0 (mzero (mA28_5 (mA28_4 (mA28_3 (mA28_2 (mA28_1 (mA28_0 (mzero (mA27_5 (mA27_4 (mA27_3 (mA27_2 (mA27_1 (mA27_0 (mzero (mzero (mzero M 25) 26) 27))))))) 28))))))) 29))))))) 30)) 31) 32) 33) 34) 35) 36) 37) 38) 39) 40) 41)
  refine sg mo_pMi_17 (by decide) (by decide) [854] 20 (fun hM => ?_)
  show AJ 1 22 795 mM_init _ 17 769 854 [some (.inr 24)] [.inl 2, .inr 24] (YM17q N) (mzero (mzero (mzero (mzero (mzero (mzero (mzero (mzero (mzero (mzero (mzero (mA30_0 (mzero (mA29_5 (mA29_4 (mA29_3 (mA29_2 (mA29_1 (mA29_0 (mzero (mA28_5 (mA28_4 (mA28_3 (mA28_2 (mA28_1 (mA28_0 (mzero (mA27_5 (mA27_4 (mA27_3 (mA27_2 (mA27_1 (mA27_0 (mzero (mzero (mzero M 25) 26) 27))))))) 28))))))) 29))))))) 30)) 31) 32) 33) 34) 35) 36) 37) 38) 39) 40) 41)
  refine A_newarr (n := 2) (dce mo_pMi_17 (pc := 854) rfl) (by decide) (by decide) (by decide) ?_
  show AJ 1 22 795 mM_init _ 18 771 856 [some (.inr 24)] [.inr 42, .inr 24] (YM18 N) (mzero (mzero (mzero (mzero (mzero (mzero (mzero (mzero (mzero (mzero (mzero (mzero (mA30_0 (mzero (mA29_5 (mA29_4 (mA29_3 (mA29_2 (mA29_1 (mA29_0 (mzero (mA28_5 (mA28_4 (mA28_3 (mA28_2 (mA28_1 (mA28_0 (mzero (mA27_5 (mA27_4 (mA27_3 (mA27_2 (mA27_1 (mA27_0 (mzero (mzero (mzero M 25) 26) 27))))))) 28))))))) 29))))))) 30)) 31) 32) 33) 34) 35) 36) 37) 38) 39) 40) 41) 42)
  refine sg mo_pMi_18 (by decide) (by decide) [862] 20 (fun hM => ?_)
  show AJ 1 22 795 mM_init _ 18 771 862 [some (.inr 24)] [.inl 6, .inr 24] (YM18q N) (mzero (mzero (mzero (mzero (mzero (mzero (mzero (mzero (mzero (mzero (mzero (mzero (mA30_0 (mzero (mA29_5 (mA29_4 (mA29_3 (mA29_2 (mA29_1 (mA29_0 (mzero (mA28_5 (mA28_4 (mA28_3 (mA28_2 (mA28_1 (mA28_0 (mzero (mA27_5 (mA27_4 (mA27_3 (mA27_2 (mA27_1 (mA27_0 (mzero (mzero (mzero M 25) 26) 27))))))) 28))))))) 29))))))) 30)) 31) 32) 33) 34) 35) 36) 37) 38) 39) 40) 41) 42)
  refine A_newarr (n := 6) (dce mo_pMi_18 (pc := 862) rfl) (by decide) (by decide) (by decide) ?_
  show AJ 1 22 795 mM_init _ 19 777 864 [some (.inr 24)] [.inr 43, .inr 24] (YM19 N) (mzero (mzero (mzero (mzero (mzero (mzero (mzero (mzero (mzero (mzero (mzero (mzero (mzero (mA30_0 (mzero (mA29_5 (mA29_4 (mA29_3 (mA29_2 (mA29_1 (mA29_0 (mzero (mA28_5 (mA28_4 (mA28_3 (mA28_2 (mA28_1 (mA28_0 (mzero (mA27_5 (mA27_4 (mA27_3 (mA27_2 (mA27_1 (mA27_0 (mzero (mzero (mzero M 25) 26) 27))))))) 28))))))) 29))))))) 30)) 31) 32) 33) 34) 35) 36) 37) 38) 39) 40) 41) 42) 43)
  refine sg mo_pMi_19 (by decide) (by decide) [870] 20 (fun hM => ?_)
  show AJ 1 22 795 mM_init _ 19 777 870 [some (.inr 24)] [.inl 6, .inr 24] (YM19q N) (mzero (mzero (mzero (mzero (mzero (mzero (mzero (mzero (mzero (mzero (mzero (mzero (mzero (mA30_0 (mzero (mA29_5 (mA29_4 (mA29_3 (mA29_2 (mA29_1 (mA29_0 (mzero (mA28_5 (mA28_4 (mA28_3 (mA28_2 (mA28_1 (mA28_0 (mzero (mA27_5 (mA27_4 (mA27_3 (mA27_2 (mA27_1 (mA27_0 (mzero (mzero (mzero M 25) 26) 27))))))) 28))))))) 29))))))) 30)) 31) 32) 33) 34) 35) 36) 37) 38) 39) 40) 41) 42) 43)
  refine A_newarr (n := 6) (dce mo_pMi_19 (pc := 870) rfl) (by decide) (by decide) (by decide) ?_
  show AJ 1 22 795 mM_init _ 20 783 872 [some (.inr 24)] [.inr 44, .inr 24] (YM20 N) (mzero (mzero (mzero (mzero (mzero (mzero (mzero (mzero (mzero (mzero (mzero (mzero (mzero (mzero (mA30_0 (mzero (mA29_5 (mA29_4 (mA29_3 (mA29_2 (mA29_1 (mA29_0 (mzero (mA28_5 (mA28_4 (mA28_3 (mA28_2 (mA28_1 (mA28_0 (mzero (mA27_5 (mA27_4 (mA27_3 (mA27_2 (mA27_1 (mA27_0 (mzero (mzero (mzero M 25) 26) 27))))))) 28))))))) 29))))))) 30)) 31) 32) 33) 34) 35) 36) 37) 38) 39) 40) 41) 42) 43) 44)
  refine sg mo_pMi_20 (by decide) (by decide) [878] 20 (fun hM => ?_)
  show AJ 1 22 795 mM_init _ 20 783 878 [some (.inr 24)] [.inl 6, .inr 24] (YM20q N) (mzero (mzero (mzero (mzero (mzero (mzero (mzero (mzero (mzero (mzero (mzero (mzero (mzero (mzero (mA30_0 (mzero (mA29_5 (mA29_4 (mA29_3 (mA29_2 (mA29_1 (mA29_0 (mzero (mA28_5 (mA28_4 (mA28_3 (mA28_2 (mA28_1 (mA28_0 (mzero (mA27_5 (mA27_4 (mA27_3 (mA27_2 (mA27_1 (mA27_0 (mzero (mzero (mzero M 25) 26) 27))))))) 28))))))) 29))))))) 30)) 31) 32) 33) 34) 35) 36) 37) 38) 39) 40) 41) 42) 43) 44)
  refine A_newarr (n := 6) (dce mo_pMi_20 (pc := 878) rfl) (by decide) (by decide) (by decide) ?_
  show AJ 1 22 795 mM_init _ 21 789 880 [some (.inr 24)] [.inr 45, .inr 24] (YM21 N) (mzero (mzero (mzero (mzero (mzero (mzero (mzero (mzero (mzero (mzero (mzero (mzero (mzero (mzero (mzero (mA30_0 (mzero (mA29_5 (mA29_4 (mA29_3 (mA29_2 (mA29_1 (mA29_0 (mzero (mA28_5 (mA28_4 (mA28_3 (mA28_2 (mA28_1 (mA28_0 (mzero (mA27_5 (mA27_4 (mA27_3 (mA27_2 (mA27_1 (mA27_0 (mzero (mzero (mzero M 25) 26) 27))))))) 28))))))) 29))))))) 30)) 31) 32) 33) 34) 35) 36) 37) 38) 39) 40) 41) 42) 43) 44) 45)
  refine sg mo_pMi_21 (by decide) (by decide) [886] 20 (fun hM => ?_)
  show AJ 1 22 795 mM_init _ 21 789 886 [some (.inr 24)] [.inl 6, .inr 24] (YM21q N) (mzero (mzero (mzero (mzero (mzero (mzero (mzero (mzero (mzero (mzero (mzero (mzero (mzero (mzero (mzero (mA30_0 (mzero (mA29_5 (mA29_4 (mA29_3 (mA29_2 (mA29_1 (mA29_0 (mzero (mA28_5 (mA28_4 (mA28_3 (mA28_2 (mA28_1 (mA28_0 (mzero (mA27_5 (mA27_4 (mA27_3 (mA27_2 (mA27_1 (mA27_0 (mzero (mzero (mzero M 25) 26) 27))))))) 28))))))) 29))))))) 30)) 31) 32) 33) 34) 35) 36) 37) 38) 39) 40) 41) 42) 43) 44) 45)
  refine A_newarr (n := 6) (dce mo_pMi_21 (pc := 886) rfl) (by decide) (by decide) (by decide) ?_
  show AJ 1 22 795 mM_init _ 22 795 888 [some (.inr 24)] [.inr 46, .inr 24] (YM22 N) (mzero (mzero (mzero (mzero (mzero (mzero (mzero (mzero (mzero (mzero (mzero (mzero (mzero (mzero (mzero (mzero (mA30_0 (mzero (mA29_5 (mA29_4 (mA29_3 (mA29_2 (mA29_1 (mA29_0 (mzero (mA28_5 (mA28_4 (mA28_3 (mA28_2 (mA28_1 (mA28_0 (mzero (mA27_5 (mA27_4 (mA27_3 (mA27_2 (mA27_1 (mA27_0 (mzero (mzero (mzero M 25) 26) 27))))))) 28))))))) 29))))))) 30)) 31) 32) 33) 34) 35) 36) 37) 38) 39) 40) 41) 42) 43) 44) 45) 46)
  show AJ 1 22 795 mM_init _ 22 795 888 [some (.inr 24)] [.inr 46, .inr 24] (YM22 N) (MM M)
  refine sgE mo_pMi_t rfl (by decide) [893] 20 (fun hM => ?_)
  exact i_M_1 60 0 (by omega) rfl
