/-! ===== the class's constructors ===== -/
def YU0 (N : Nat) : Ly := [.inl N, .inr (4, [some none, some none, some none, some none, some none]), .inr (3, [some none, some none])]
def YU1 (N : Nat) : Ly := [.inl N, .inr (4, [some none, some none, some none, some none, some none]), .inr (3, [some none, some none]), .inl 7]
def YU1q (N : Nat) : Ly := [.inl N, .inr (4, [some none, some none, some none, some none, some none]), .inr (3, [some (some 3), some none]), .inl 7]
def YU2 (N : Nat) : Ly := [.inl N, .inr (4, [some none, some none, some none, some none, some none]), .inr (3, [some (some 3), some none]), .inl 7, .inl 30]
def YU3 (N : Nat) : Ly := [.inl N, .inr (4, [some none, some none, some none, some none, some none]), .inr (3, [some (some 3), some (some 4)]), .inl 7, .inl 30]
def Yi_H5F (N : Nat) : Ly := [.inl N, .inr (4, [some (some 2), some none, some none, some none, some none]), .inr (3, [some (some 3), some (some 4)]), .inl 7, .inl 30, .inr (0, [none, some (some 6), some (some 7), some (some 8), none, none, none, none]), .inl 30, .inl 30, .inl 30]
def Yi_H50 (N : Nat) : Ly := [.inl N, .inr (4, [some (some 2), some none, some none, some none, some none]), .inr (3, [some (some 3), some (some 4)]), .inl 7, .inl 30, .inr (0, [none, some none, some none, some none, none, none, none, none])]
def Yi_H50q (N : Nat) : Ly := [.inl N, .inr (4, [some (some 2), some none, some none, some none, some none]), .inr (3, [some (some 3), some (some 4)]), .inl 7, .inl 30, .inr (0, [none, some none, some none, some none, none, none, none, none])]
def Yi_H51 (N : Nat) : Ly := [.inl N, .inr (4, [some (some 2), some none, some none, some none, some none]), .inr (3, [some (some 3), some (some 4)]), .inl 7, .inl 30, .inr (0, [none, some none, some none, some none, none, none, none, none]), .inl 30]
def Yi_H51q (N : Nat) : Ly := [.inl N, .inr (4, [some (some 2), some none, some none, some none, some none]), .inr (3, [some (some 3), some (some 4)]), .inl 7, .inl 30, .inr (0, [none, some (some 6), some none, some none, none, none, none, none]), .inl 30]
def Yi_H52 (N : Nat) : Ly := [.inl N, .inr (4, [some (some 2), some none, some none, some none, some none]), .inr (3, [some (some 3), some (some 4)]), .inl 7, .inl 30, .inr (0, [none, some (some 6), some none, some none, none, none, none, none]), .inl 30, .inl 30]
def Yi_H52q (N : Nat) : Ly := [.inl N, .inr (4, [some (some 2), some none, some none, some none, some none]), .inr (3, [some (some 3), some (some 4)]), .inl 7, .inl 30, .inr (0, [none, some (some 6), some (some 7), some none, none, none, none, none]), .inl 30, .inl 30]
def Yi_H53 (N : Nat) : Ly := [.inl N, .inr (4, [some (some 2), some none, some none, some none, some none]), .inr (3, [some (some 3), some (some 4)]), .inl 7, .inl 30, .inr (0, [none, some (some 6), some (some 7), some none, none, none, none, none]), .inl 30, .inl 30, .inl 30]
def Yi_H9F (N : Nat) : Ly := [.inl N, .inr (4, [some (some 2), some (some 5), some none, some none, some none]), .inr (3, [some (some 3), some (some 4)]), .inl 7, .inl 30, .inr (0, [none, some (some 6), some (some 7), some (some 8), none, none, none, none]), .inl 30, .inl 30, .inl 30, .inr (0, [none, some (some 10), some (some 11), some (some 12), none, none, none, none]), .inl 30, .inl 30, .inl 30]
def Yi_H90 (N : Nat) : Ly := [.inl N, .inr (4, [some (some 2), some (some 5), some none, some none, some none]), .inr (3, [some (some 3), some (some 4)]), .inl 7, .inl 30, .inr (0, [none, some (some 6), some (some 7), some (some 8), none, none, none, none]), .inl 30, .inl 30, .inl 30, .inr (0, [none, some none, some none, some none, none, none, none, none])]
def Yi_H90q (N : Nat) : Ly := [.inl N, .inr (4, [some (some 2), some (some 5), some none, some none, some none]), .inr (3, [some (some 3), some (some 4)]), .inl 7, .inl 30, .inr (0, [none, some (some 6), some (some 7), some (some 8), none, none, none, none]), .inl 30, .inl 30, .inl 30, .inr (0, [none, some none, some none, some none, none, none, none, none])]
def Yi_H91 (N : Nat) : Ly := [.inl N, .inr (4, [some (some 2), some (some 5), some none, some none, some none]), .inr (3, [some (some 3), some (some 4)]), .inl 7, .inl 30, .inr (0, [none, some (some 6), some (some 7), some (some 8), none, none, none, none]), .inl 30, .inl 30, .inl 30, .inr (0, [none, some none, some none, some none, none, none, none, none]), .inl 30]
def Yi_H91q (N : Nat) : Ly := [.inl N, .inr (4, [some (some 2), some (some 5), some none, some none, some none]), .inr (3, [some (some 3), some (some 4)]), .inl 7, .inl 30, .inr (0, [none, some (some 6), some (some 7), some (some 8), none, none, none, none]), .inl 30, .inl 30, .inl 30, .inr (0, [none, some (some 10), some none, some none, none, none, none, none]), .inl 30]
def Yi_H92 (N : Nat) : Ly := [.inl N, .inr (4, [some (some 2), some (some 5), some none, some none, some none]), .inr (3, [some (some 3), some (some 4)]), .inl 7, .inl 30, .inr (0, [none, some (some 6), some (some 7), some (some 8), none, none, none, none]), .inl 30, .inl 30, .inl 30, .inr (0, [none, some (some 10), some none, some none, none, none, none, none]), .inl 30, .inl 30]
def Yi_H92q (N : Nat) : Ly := [.inl N, .inr (4, [some (some 2), some (some 5), some none, some none, some none]), .inr (3, [some (some 3), some (some 4)]), .inl 7, .inl 30, .inr (0, [none, some (some 6), some (some 7), some (some 8), none, none, none, none]), .inl 30, .inl 30, .inl 30, .inr (0, [none, some (some 10), some (some 11), some none, none, none, none, none]), .inl 30, .inl 30]
def Yi_H93 (N : Nat) : Ly := [.inl N, .inr (4, [some (some 2), some (some 5), some none, some none, some none]), .inr (3, [some (some 3), some (some 4)]), .inl 7, .inl 30, .inr (0, [none, some (some 6), some (some 7), some (some 8), none, none, none, none]), .inl 30, .inl 30, .inl 30, .inr (0, [none, some (some 10), some (some 11), some none, none, none, none, none]), .inl 30, .inl 30, .inl 30]
def Yi_RF (N : Nat) : Ly := [.inl N, .inr (4, [some (some 2), some (some 5), some (some 9), some none, some none]), .inr (3, [some (some 3), some (some 4)]), .inl 7, .inl 30, .inr (0, [none, some (some 6), some (some 7), some (some 8), none, none, none, none]), .inl 30, .inl 30, .inl 30, .inr (0, [none, some (some 10), some (some 11), some (some 12), none, none, none, none]), .inl 30, .inl 30, .inl 30, .inr (2, [some (some 2), some (some 14), some (some 15), some (some 16), some (some 17), some (some 18), none, none, none, none]), .inl 150, .inl 750, .inl 150, .inl 5, .inl 30]
def Yi_R0 (N : Nat) : Ly := [.inl N, .inr (4, [some (some 2), some (some 5), some (some 9), some none, some none]), .inr (3, [some (some 3), some (some 4)]), .inl 7, .inl 30, .inr (0, [none, some (some 6), some (some 7), some (some 8), none, none, none, none]), .inl 30, .inl 30, .inl 30, .inr (0, [none, some (some 10), some (some 11), some (some 12), none, none, none, none]), .inl 30, .inl 30, .inl 30, .inr (2, [some none, some none, some none, some none, some none, some none, none, none, none, none])]
def Yi_R0q (N : Nat) : Ly := [.inl N, .inr (4, [some (some 2), some (some 5), some (some 9), some none, some none]), .inr (3, [some (some 3), some (some 4)]), .inl 7, .inl 30, .inr (0, [none, some (some 6), some (some 7), some (some 8), none, none, none, none]), .inl 30, .inl 30, .inl 30, .inr (0, [none, some (some 10), some (some 11), some (some 12), none, none, none, none]), .inl 30, .inl 30, .inl 30, .inr (2, [some none, some none, some none, some none, some none, some none, none, none, none, none])]
def Yi_R1 (N : Nat) : Ly := [.inl N, .inr (4, [some (some 2), some (some 5), some (some 9), some none, some none]), .inr (3, [some (some 3), some (some 4)]), .inl 7, .inl 30, .inr (0, [none, some (some 6), some (some 7), some (some 8), none, none, none, none]), .inl 30, .inl 30, .inl 30, .inr (0, [none, some (some 10), some (some 11), some (some 12), none, none, none, none]), .inl 30, .inl 30, .inl 30, .inr (2, [some none, some none, some none, some none, some none, some none, none, none, none, none]), .inl 150]
def Yi_R1q (N : Nat) : Ly := [.inl N, .inr (4, [some (some 2), some (some 5), some (some 9), some none, some none]), .inr (3, [some (some 3), some (some 4)]), .inl 7, .inl 30, .inr (0, [none, some (some 6), some (some 7), some (some 8), none, none, none, none]), .inl 30, .inl 30, .inl 30, .inr (0, [none, some (some 10), some (some 11), some (some 12), none, none, none, none]), .inl 30, .inl 30, .inl 30, .inr (2, [some none, some (some 14), some none, some none, some none, some none, none, none, none, none]), .inl 150]
def Yi_R2 (N : Nat) : Ly := [.inl N, .inr (4, [some (some 2), some (some 5), some (some 9), some none, some none]), .inr (3, [some (some 3), some (some 4)]), .inl 7, .inl 30, .inr (0, [none, some (some 6), some (some 7), some (some 8), none, none, none, none]), .inl 30, .inl 30, .inl 30, .inr (0, [none, some (some 10), some (some 11), some (some 12), none, none, none, none]), .inl 30, .inl 30, .inl 30, .inr (2, [some none, some (some 14), some none, some none, some none, some none, none, none, none, none]), .inl 150, .inl 750]
def Yi_R2q (N : Nat) : Ly := [.inl N, .inr (4, [some (some 2), some (some 5), some (some 9), some none, some none]), .inr (3, [some (some 3), some (some 4)]), .inl 7, .inl 30, .inr (0, [none, some (some 6), some (some 7), some (some 8), none, none, none, none]), .inl 30, .inl 30, .inl 30, .inr (0, [none, some (some 10), some (some 11), some (some 12), none, none, none, none]), .inl 30, .inl 30, .inl 30, .inr (2, [some none, some (some 14), some (some 15), some none, some none, some none, none, none, none, none]), .inl 150, .inl 750]
def Yi_R3 (N : Nat) : Ly := [.inl N, .inr (4, [some (some 2), some (some 5), some (some 9), some none, some none]), .inr (3, [some (some 3), some (some 4)]), .inl 7, .inl 30, .inr (0, [none, some (some 6), some (some 7), some (some 8), none, none, none, none]), .inl 30, .inl 30, .inl 30, .inr (0, [none, some (some 10), some (some 11), some (some 12), none, none, none, none]), .inl 30, .inl 30, .inl 30, .inr (2, [some none, some (some 14), some (some 15), some none, some none, some none, none, none, none, none]), .inl 150, .inl 750, .inl 150]
def Yi_R3q (N : Nat) : Ly := [.inl N, .inr (4, [some (some 2), some (some 5), some (some 9), some none, some none]), .inr (3, [some (some 3), some (some 4)]), .inl 7, .inl 30, .inr (0, [none, some (some 6), some (some 7), some (some 8), none, none, none, none]), .inl 30, .inl 30, .inl 30, .inr (0, [none, some (some 10), some (some 11), some (some 12), none, none, none, none]), .inl 30, .inl 30, .inl 30, .inr (2, [some none, some (some 14), some (some 15), some (some 16), some none, some none, none, none, none, none]), .inl 150, .inl 750, .inl 150]
def Yi_R4 (N : Nat) : Ly := [.inl N, .inr (4, [some (some 2), some (some 5), some (some 9), some none, some none]), .inr (3, [some (some 3), some (some 4)]), .inl 7, .inl 30, .inr (0, [none, some (some 6), some (some 7), some (some 8), none, none, none, none]), .inl 30, .inl 30, .inl 30, .inr (0, [none, some (some 10), some (some 11), some (some 12), none, none, none, none]), .inl 30, .inl 30, .inl 30, .inr (2, [some none, some (some 14), some (some 15), some (some 16), some none, some none, none, none, none, none]), .inl 150, .inl 750, .inl 150, .inl 5]
def Yi_R4q (N : Nat) : Ly := [.inl N, .inr (4, [some (some 2), some (some 5), some (some 9), some none, some none]), .inr (3, [some (some 3), some (some 4)]), .inl 7, .inl 30, .inr (0, [none, some (some 6), some (some 7), some (some 8), none, none, none, none]), .inl 30, .inl 30, .inl 30, .inr (0, [none, some (some 10), some (some 11), some (some 12), none, none, none, none]), .inl 30, .inl 30, .inl 30, .inr (2, [some none, some (some 14), some (some 15), some (some 16), some (some 17), some none, none, none, none, none]), .inl 150, .inl 750, .inl 150, .inl 5]
def Yi_R5 (N : Nat) : Ly := [.inl N, .inr (4, [some (some 2), some (some 5), some (some 9), some none, some none]), .inr (3, [some (some 3), some (some 4)]), .inl 7, .inl 30, .inr (0, [none, some (some 6), some (some 7), some (some 8), none, none, none, none]), .inl 30, .inl 30, .inl 30, .inr (0, [none, some (some 10), some (some 11), some (some 12), none, none, none, none]), .inl 30, .inl 30, .inl 30, .inr (2, [some none, some (some 14), some (some 15), some (some 16), some (some 17), some none, none, none, none, none]), .inl 150, .inl 750, .inl 150, .inl 5, .inl 30]
def Yi_PF (N : Nat) : Ly := [.inl N, .inr (4, [some (some 2), some (some 5), some (some 9), some (some 13), some none]), .inr (3, [some (some 3), some (some 4)]), .inl 7, .inl 30, .inr (0, [none, some (some 6), some (some 7), some (some 8), none, none, none, none]), .inl 30, .inl 30, .inl 30, .inr (0, [none, some (some 10), some (some 11), some (some 12), none, none, none, none]), .inl 30, .inl 30, .inl 30, .inr (2, [some (some 2), some (some 14), some (some 15), some (some 16), some (some 17), some (some 18), none, none, none, none]), .inl 150, .inl 750, .inl 150, .inl 5, .inl 30, .inr (1, [some (some 20), some (some 21), some (some 22), some (some 23), none]), .inl 6, .inl 6, .inl 6, .inl 6]
def Yi_P0 (N : Nat) : Ly := [.inl N, .inr (4, [some (some 2), some (some 5), some (some 9), some (some 13), some none]), .inr (3, [some (some 3), some (some 4)]), .inl 7, .inl 30, .inr (0, [none, some (some 6), some (some 7), some (some 8), none, none, none, none]), .inl 30, .inl 30, .inl 30, .inr (0, [none, some (some 10), some (some 11), some (some 12), none, none, none, none]), .inl 30, .inl 30, .inl 30, .inr (2, [some (some 2), some (some 14), some (some 15), some (some 16), some (some 17), some (some 18), none, none, none, none]), .inl 150, .inl 750, .inl 150, .inl 5, .inl 30, .inr (1, [some none, some none, some none, some none, none])]
def Yi_P0q (N : Nat) : Ly := [.inl N, .inr (4, [some (some 2), some (some 5), some (some 9), some (some 13), some none]), .inr (3, [some (some 3), some (some 4)]), .inl 7, .inl 30, .inr (0, [none, some (some 6), some (some 7), some (some 8), none, none, none, none]), .inl 30, .inl 30, .inl 30, .inr (0, [none, some (some 10), some (some 11), some (some 12), none, none, none, none]), .inl 30, .inl 30, .inl 30, .inr (2, [some (some 2), some (some 14), some (some 15), some (some 16), some (some 17), some (some 18), none, none, none, none]), .inl 150, .inl 750, .inl 150, .inl 5, .inl 30, .inr (1, [some none, some none, some none, some none, none])]
def Yi_P1 (N : Nat) : Ly := [.inl N, .inr (4, [some (some 2), some (some 5), some (some 9), some (some 13), some none]), .inr (3, [some (some 3), some (some 4)]), .inl 7, .inl 30, .inr (0, [none, some (some 6), some (some 7), some (some 8), none, none, none, none]), .inl 30, .inl 30, .inl 30, .inr (0, [none, some (some 10), some (some 11), some (some 12), none, none, none, none]), .inl 30, .inl 30, .inl 30, .inr (2, [some (some 2), some (some 14), some (some 15), some (some 16), some (some 17), some (some 18), none, none, none, none]), .inl 150, .inl 750, .inl 150, .inl 5, .inl 30, .inr (1, [some none, some none, some none, some none, none]), .inl 6]
def Yi_P1q (N : Nat) : Ly := [.inl N, .inr (4, [some (some 2), some (some 5), some (some 9), some (some 13), some none]), .inr (3, [some (some 3), some (some 4)]), .inl 7, .inl 30, .inr (0, [none, some (some 6), some (some 7), some (some 8), none, none, none, none]), .inl 30, .inl 30, .inl 30, .inr (0, [none, some (some 10), some (some 11), some (some 12), none, none, none, none]), .inl 30, .inl 30, .inl 30, .inr (2, [some (some 2), some (some 14), some (some 15), some (some 16), some (some 17), some (some 18), none, none, none, none]), .inl 150, .inl 750, .inl 150, .inl 5, .inl 30, .inr (1, [some (some 20), some none, some none, some none, none]), .inl 6]
def Yi_P2 (N : Nat) : Ly := [.inl N, .inr (4, [some (some 2), some (some 5), some (some 9), some (some 13), some none]), .inr (3, [some (some 3), some (some 4)]), .inl 7, .inl 30, .inr (0, [none, some (some 6), some (some 7), some (some 8), none, none, none, none]), .inl 30, .inl 30, .inl 30, .inr (0, [none, some (some 10), some (some 11), some (some 12), none, none, none, none]), .inl 30, .inl 30, .inl 30, .inr (2, [some (some 2), some (some 14), some (some 15), some (some 16), some (some 17), some (some 18), none, none, none, none]), .inl 150, .inl 750, .inl 150, .inl 5, .inl 30, .inr (1, [some (some 20), some none, some none, some none, none]), .inl 6, .inl 6]
def Yi_P2q (N : Nat) : Ly := [.inl N, .inr (4, [some (some 2), some (some 5), some (some 9), some (some 13), some none]), .inr (3, [some (some 3), some (some 4)]), .inl 7, .inl 30, .inr (0, [none, some (some 6), some (some 7), some (some 8), none, none, none, none]), .inl 30, .inl 30, .inl 30, .inr (0, [none, some (some 10), some (some 11), some (some 12), none, none, none, none]), .inl 30, .inl 30, .inl 30, .inr (2, [some (some 2), some (some 14), some (some 15), some (some 16), some (some 17), some (some 18), none, none, none, none]), .inl 150, .inl 750, .inl 150, .inl 5, .inl 30, .inr (1, [some (some 20), some (some 21), some none, some none, none]), .inl 6, .inl 6]
def Yi_P3 (N : Nat) : Ly := [.inl N, .inr (4, [some (some 2), some (some 5), some (some 9), some (some 13), some none]), .inr (3, [some (some 3), some (some 4)]), .inl 7, .inl 30, .inr (0, [none, some (some 6), some (some 7), some (some 8), none, none, none, none]), .inl 30, .inl 30, .inl 30, .inr (0, [none, some (some 10), some (some 11), some (some 12), none, none, none, none]), .inl 30, .inl 30, .inl 30, .inr (2, [some (some 2), some (some 14), some (some 15), some (some 16), some (some 17), some (some 18), none, none, none, none]), .inl 150, .inl 750, .inl 150, .inl 5, .inl 30, .inr (1, [some (some 20), some (some 21), some none, some none, none]), .inl 6, .inl 6, .inl 6]
def Yi_P3q (N : Nat) : Ly := [.inl N, .inr (4, [some (some 2), some (some 5), some (some 9), some (some 13), some none]), .inr (3, [some (some 3), some (some 4)]), .inl 7, .inl 30, .inr (0, [none, some (some 6), some (some 7), some (some 8), none, none, none, none]), .inl 30, .inl 30, .inl 30, .inr (0, [none, some (some 10), some (some 11), some (some 12), none, none, none, none]), .inl 30, .inl 30, .inl 30, .inr (2, [some (some 2), some (some 14), some (some 15), some (some 16), some (some 17), some (some 18), none, none, none, none]), .inl 150, .inl 750, .inl 150, .inl 5, .inl 30, .inr (1, [some (some 20), some (some 21), some (some 22), some none, none]), .inl 6, .inl 6, .inl 6]
def Yi_P4 (N : Nat) : Ly := [.inl N, .inr (4, [some (some 2), some (some 5), some (some 9), some (some 13), some none]), .inr (3, [some (some 3), some (some 4)]), .inl 7, .inl 30, .inr (0, [none, some (some 6), some (some 7), some (some 8), none, none, none, none]), .inl 30, .inl 30, .inl 30, .inr (0, [none, some (some 10), some (some 11), some (some 12), none, none, none, none]), .inl 30, .inl 30, .inl 30, .inr (2, [some (some 2), some (some 14), some (some 15), some (some 16), some (some 17), some (some 18), none, none, none, none]), .inl 150, .inl 750, .inl 150, .inl 5, .inl 30, .inr (1, [some (some 20), some (some 21), some (some 22), some none, none]), .inl 6, .inl 6, .inl 6, .inl 6]
def YK0 (N : Nat) : Ly := [.inl N, .inr (4, [some none, some none, some none, some none, some none])]
def YK1 (N : Nat) : Ly := [.inl N, .inr (4, [some (some 2), some none, some none, some none, some none]), .inr (3, [some (some 3), some (some 4)]), .inl 7, .inl 30]
def YK2 (N : Nat) : Ly := [.inl N, .inr (4, [some (some 2), some (some 5), some none, some none, some none]), .inr (3, [some (some 3), some (some 4)]), .inl 7, .inl 30, .inr (0, [none, some (some 6), some (some 7), some (some 8), none, none, none, none]), .inl 30, .inl 30, .inl 30]
def YK3 (N : Nat) : Ly := [.inl N, .inr (4, [some (some 2), some (some 5), some (some 9), some none, some none]), .inr (3, [some (some 3), some (some 4)]), .inl 7, .inl 30, .inr (0, [none, some (some 6), some (some 7), some (some 8), none, none, none, none]), .inl 30, .inl 30, .inl 30, .inr (0, [none, some (some 10), some (some 11), some (some 12), none, none, none, none]), .inl 30, .inl 30, .inl 30]
def YK4 (N : Nat) : Ly := [.inl N, .inr (4, [some (some 2), some (some 5), some (some 9), some (some 13), some none]), .inr (3, [some (some 3), some (some 4)]), .inl 7, .inl 30, .inr (0, [none, some (some 6), some (some 7), some (some 8), none, none, none, none]), .inl 30, .inl 30, .inl 30, .inr (0, [none, some (some 10), some (some 11), some (some 12), none, none, none, none]), .inl 30, .inl 30, .inl 30, .inr (2, [some (some 2), some (some 14), some (some 15), some (some 16), some (some 17), some (some 18), none, none, none, none]), .inl 150, .inl 750, .inl 150, .inl 5, .inl 30]
def YK5 (N : Nat) : Ly := [.inl N, .inr (4, [some (some 2), some (some 5), some (some 9), some (some 13), some (some 19)]), .inr (3, [some (some 3), some (some 4)]), .inl 7, .inl 30, .inr (0, [none, some (some 6), some (some 7), some (some 8), none, none, none, none]), .inl 30, .inl 30, .inl 30, .inr (0, [none, some (some 10), some (some 11), some (some 12), none, none, none, none]), .inl 30, .inl 30, .inl 30, .inr (2, [some (some 2), some (some 14), some (some 15), some (some 16), some (some 17), some (some 18), none, none, none, none]), .inl 150, .inl 750, .inl 150, .inl 5, .inl 30, .inr (1, [some (some 20), some (some 21), some (some 22), some (some 23), none]), .inl 6, .inl 6, .inl 6, .inl 6]
theorem dU5 : DC mU_init 5 (.getstatic 9) 3 := fun r hr => by cases (show some rU_init = some r from hr); decide +kernel
theorem dU11 : DC mU_init 11 (.checkcast 14) 3 := fun r hr => by cases (show some rU_init = some r from hr); decide +kernel
theorem dU18 : DC mU_init 18 (.getstatic 23) 3 := fun r hr => by cases (show some rU_init = some r from hr); decide +kernel
theorem dU24 : DC mU_init 24 (.checkcast 14) 3 := fun r hr => by cases (show some rU_init = some r from hr); decide +kernel
theorem i_U {N : Nat} {M : Mm} : Ret 1 2 37 mU_init [.inr 2] (YU0 N) M (Vo (YU3 N) (mvs (mvs M 3 fPr) 4 fRe)) := by
  refine Ret.ofAJ (by rw [mtb0_len]; decide) (fun r h => by cases (show some rU_init = some r from h); decide) (fun hM0 => ?_)
  refine sg moU_init (by decide) (by decide) [5] 20 (fun hM => ?_)
  show AJ 1 2 37 mU_init _ 0 0 5 [some (.inr 2)] [.inr 2] (YU0 N) M
  refine A_static (nm := "FIRST_PRICES") (n := 7) (idx := 9) (vs := fPr) (fun cA b0 U h => ⟨h.1, h.2.2.1⟩) (oce moU_init (pc := 8) rfl) dU5 (dce moU_init (pc := 8) rfl) dU11 (by decide) (by decide) (by decide) (by decide) ?_
  show AJ 1 2 37 mU_init _ 1 7 14 [some (.inr 2)] [.inr 3, .inr 2] (YU1 N) (mvs M 3 fPr)
  refine sg moU_init (by decide) (by decide) [18] 20 (fun hM => ?_)
  show AJ 1 2 37 mU_init _ 1 7 18 [some (.inr 2)] [.inr 2] (YU1q N) (mvs M 3 fPr)
  refine A_static (nm := "FIRST_REACHES") (n := 30) (idx := 23) (vs := fRe) (fun cA b0 U h => ⟨h.2.1, h.2.2.2.1⟩) (oce moU_init (pc := 21) rfl) dU18 (dce moU_init (pc := 21) rfl) dU24 (by decide) (by decide) (by decide) (by decide) ?_
  show AJ 1 2 37 mU_init _ 2 37 27 [some (.inr 2)] [.inr 4, .inr 2] (YU2 N) (mvs (mvs M 3 fPr) 4 fRe)
  refine sgE moU_init rfl (by decide) [] 20 (fun hM => ?_)
  exact ⟨rfl, rfl, rfl⟩
theorem i_H5 {N : Nat} {M : Mm} : Ret 1 3 90 mH_init [.inr 5, .inl 1] (Yi_H50 N) M (Vo (Yi_H5F N) (flM 7 (-9) (flM 6 (-9) (mset (mzero (mzero (mzero M 6) 7) 8) 5 0 1) 30) 30)) := by
  refine Ret.ofAJ (by rw [mtb0_len]; decide) (fun r h => by cases (show some rH_init = some r from h); decide) (fun hM0 => ?_)
  refine sg moH_init (by decide) (by decide) [7] 20 (fun hM => ?_)
  show AJ 1 3 90 mH_init _ 0 0 7 [some (.inr 5), some (.inl 1)] [.inl 30, .inr 5] (Yi_H50q N) M
  refine A_newarr (n := 30) (dce moH_init (pc := 7) rfl) (by decide) (by decide) (by decide) ?_
  show AJ 1 3 90 mH_init _ 1 30 9 [some (.inr 5), some (.inl 1)] [.inr 6, .inr 5] (Yi_H51 N) (mzero M 6)
  refine sg moH_init (by decide) (by decide) [15] 20 (fun hM => ?_)
  show AJ 1 3 90 mH_init _ 1 30 15 [some (.inr 5), some (.inl 1)] [.inl 30, .inr 5] (Yi_H51q N) (mzero M 6)
  refine A_newarr (n := 30) (dce moH_init (pc := 15) rfl) (by decide) (by decide) (by decide) ?_
  show AJ 1 3 90 mH_init _ 2 60 17 [some (.inr 5), some (.inl 1)] [.inr 7, .inr 5] (Yi_H52 N) (mzero (mzero M 6) 7)
  refine sg moH_init (by decide) (by decide) [23] 20 (fun hM => ?_)
  show AJ 1 3 90 mH_init _ 2 60 23 [some (.inr 5), some (.inl 1)] [.inl 30, .inr 5] (Yi_H52q N) (mzero (mzero M 6) 7)
  refine A_newarr (n := 30) (dce moH_init (pc := 23) rfl) (by decide) (by decide) (by decide) ?_
  show AJ 1 3 90 mH_init _ 3 90 25 [some (.inr 5), some (.inl 1)] [.inr 8, .inr 5] (Yi_H53 N) (mzero (mzero (mzero M 6) 7) 8)
  refine sgE moH_init rfl (by decide) [] 40 (fun hM => ?_)
  refine ⟨⟨by decide, trivial⟩, CL.vo (t_fillS rfl (by decide) (by decide)) (Nat.le_of_ble_eq_true rfl) (fun hM2 => CL.vo (t_fillS rfl (by decide) (by decide)) (Nat.le_of_ble_eq_true rfl) (fun hM3 => ?_))⟩
  exact ⟨rfl, rfl, rfl⟩
theorem i_H9 {N : Nat} {M : Mm} : Ret 1 3 90 mH_init [.inr 9, .inl (-1)] (Yi_H90 N) M (Vo (Yi_H9F N) (flM 11 (-9) (flM 10 (-9) (mset (mzero (mzero (mzero M 10) 11) 12) 9 0 (-1)) 30) 30)) := by
  refine Ret.ofAJ (by rw [mtb0_len]; decide) (fun r h => by cases (show some rH_init = some r from h); decide) (fun hM0 => ?_)
  refine sg moH_init (by decide) (by decide) [7] 20 (fun hM => ?_)
  show AJ 1 3 90 mH_init _ 0 0 7 [some (.inr 9), some (.inl (-1))] [.inl 30, .inr 9] (Yi_H90q N) M
  refine A_newarr (n := 30) (dce moH_init (pc := 7) rfl) (by decide) (by decide) (by decide) ?_
  show AJ 1 3 90 mH_init _ 1 30 9 [some (.inr 9), some (.inl (-1))] [.inr 10, .inr 9] (Yi_H91 N) (mzero M 10)
  refine sg moH_init (by decide) (by decide) [15] 20 (fun hM => ?_)
  show AJ 1 3 90 mH_init _ 1 30 15 [some (.inr 9), some (.inl (-1))] [.inl 30, .inr 9] (Yi_H91q N) (mzero M 10)
  refine A_newarr (n := 30) (dce moH_init (pc := 15) rfl) (by decide) (by decide) (by decide) ?_
  show AJ 1 3 90 mH_init _ 2 60 17 [some (.inr 9), some (.inl (-1))] [.inr 11, .inr 9] (Yi_H92 N) (mzero (mzero M 10) 11)
  refine sg moH_init (by decide) (by decide) [23] 20 (fun hM => ?_)
  show AJ 1 3 90 mH_init _ 2 60 23 [some (.inr 9), some (.inl (-1))] [.inl 30, .inr 9] (Yi_H92q N) (mzero (mzero M 10) 11)
  refine A_newarr (n := 30) (dce moH_init (pc := 23) rfl) (by decide) (by decide) (by decide) ?_
  show AJ 1 3 90 mH_init _ 3 90 25 [some (.inr 9), some (.inl (-1))] [.inr 12, .inr 9] (Yi_H93 N) (mzero (mzero (mzero M 10) 11) 12)
  refine sgE moH_init rfl (by decide) [] 40 (fun hM => ?_)
  refine ⟨⟨by decide, trivial⟩, CL.vo (t_fillS rfl (by decide) (by decide)) (Nat.le_of_ble_eq_true rfl) (fun hM2 => CL.vo (t_fillS rfl (by decide) (by decide)) (Nat.le_of_ble_eq_true rfl) (fun hM3 => ?_))⟩
  exact ⟨rfl, rfl, rfl⟩
theorem i_R {N : Nat} {M : Mm} : Ret 1 5 1085 mR_init [.inr 13, .inr 2] (Yi_R0 N) M (Vo (Yi_RF N) (mzero (mzero (mzero (mzero (mzero M 14) 15) 16) 17) 18)) := by
  refine Ret.ofAJ (by rw [mtb0_len]; decide) (fun r h => by cases (show some rR_init = some r from h); decide) (fun hM0 => ?_)
  refine sg moR_init (by decide) (by decide) [8] 20 (fun hM => ?_)
  show AJ 1 5 1085 mR_init _ 0 0 8 [some (.inr 13), some (.inr 2)] [.inl 150, .inr 13] (Yi_R0q N) M
  refine A_newarr (n := 150) (dce moR_init (pc := 8) rfl) (by decide) (by decide) (by decide) ?_
  show AJ 1 5 1085 mR_init _ 1 150 10 [some (.inr 13), some (.inr 2)] [.inr 14, .inr 13] (Yi_R1 N) (mzero M 14)
  refine sg moR_init (by decide) (by decide) [17] 20 (fun hM => ?_)
  show AJ 1 5 1085 mR_init _ 1 150 17 [some (.inr 13), some (.inr 2)] [.inl 750, .inr 13] (Yi_R1q N) (mzero M 14)
  refine A_newarr (n := 750) (dce moR_init (pc := 17) rfl) (by decide) (by decide) (by decide) ?_
  show AJ 1 5 1085 mR_init _ 2 900 19 [some (.inr 13), some (.inr 2)] [.inr 15, .inr 13] (Yi_R2 N) (mzero (mzero M 14) 15)
  refine sg moR_init (by decide) (by decide) [26] 20 (fun hM => ?_)
  show AJ 1 5 1085 mR_init _ 2 900 26 [some (.inr 13), some (.inr 2)] [.inl 150, .inr 13] (Yi_R2q N) (mzero (mzero M 14) 15)
  refine A_newarr (n := 150) (dce moR_init (pc := 26) rfl) (by decide) (by decide) (by decide) ?_
  show AJ 1 5 1085 mR_init _ 3 1050 28 [some (.inr 13), some (.inr 2)] [.inr 16, .inr 13] (Yi_R3 N) (mzero (mzero (mzero M 14) 15) 16)
  refine sg moR_init (by decide) (by decide) [33] 20 (fun hM => ?_)
  show AJ 1 5 1085 mR_init _ 3 1050 33 [some (.inr 13), some (.inr 2)] [.inl 5, .inr 13] (Yi_R3q N) (mzero (mzero (mzero M 14) 15) 16)
  refine A_newarr (n := 5) (dce moR_init (pc := 33) rfl) (by decide) (by decide) (by decide) ?_
  show AJ 1 5 1085 mR_init _ 4 1055 35 [some (.inr 13), some (.inr 2)] [.inr 17, .inr 13] (Yi_R4 N) (mzero (mzero (mzero (mzero M 14) 15) 16) 17)
  refine sg moR_init (by decide) (by decide) [41] 20 (fun hM => ?_)
  show AJ 1 5 1085 mR_init _ 4 1055 41 [some (.inr 13), some (.inr 2)] [.inl 30, .inr 13] (Yi_R4q N) (mzero (mzero (mzero (mzero M 14) 15) 16) 17)
  refine A_newarr (n := 30) (dce moR_init (pc := 41) rfl) (by decide) (by decide) (by decide) ?_
  show AJ 1 5 1085 mR_init _ 5 1085 43 [some (.inr 13), some (.inr 2)] [.inr 18, .inr 13] (Yi_R5 N) (mzero (mzero (mzero (mzero (mzero M 14) 15) 16) 17) 18)
  refine sgE moR_init rfl (by decide) [] 20 (fun hM => ?_)
  exact ⟨rfl, rfl, rfl⟩
theorem i_P {N : Nat} {M : Mm} : Ret 1 4 24 mP_init [.inr 19] (Yi_P0 N) M (Vo (Yi_PF N) (mzero (mzero (mzero (mzero M 20) 21) 22) 23)) := by
  refine Ret.ofAJ (by rw [mtb0_len]; decide) (fun r h => by cases (show some rP_init = some r from h); decide) (fun hM0 => ?_)
  refine sg moP_init (by decide) (by decide) [7] 20 (fun hM => ?_)
  show AJ 1 4 24 mP_init _ 0 0 7 [some (.inr 19)] [.inl 6, .inr 19] (Yi_P0q N) M
  refine A_newarr (n := 6) (dce moP_init (pc := 7) rfl) (by decide) (by decide) (by decide) ?_
  show AJ 1 4 24 mP_init _ 1 6 9 [some (.inr 19)] [.inr 20, .inr 19] (Yi_P1 N) (mzero M 20)
  refine sg moP_init (by decide) (by decide) [15] 20 (fun hM => ?_)
  show AJ 1 4 24 mP_init _ 1 6 15 [some (.inr 19)] [.inl 6, .inr 19] (Yi_P1q N) (mzero M 20)
  refine A_newarr (n := 6) (dce moP_init (pc := 15) rfl) (by decide) (by decide) (by decide) ?_
  show AJ 1 4 24 mP_init _ 2 12 17 [some (.inr 19)] [.inr 21, .inr 19] (Yi_P2 N) (mzero (mzero M 20) 21)
  refine sg moP_init (by decide) (by decide) [23] 20 (fun hM => ?_)
  show AJ 1 4 24 mP_init _ 2 12 23 [some (.inr 19)] [.inl 6, .inr 19] (Yi_P2q N) (mzero (mzero M 20) 21)
  refine A_newarr (n := 6) (dce moP_init (pc := 23) rfl) (by decide) (by decide) (by decide) ?_
  show AJ 1 4 24 mP_init _ 3 18 25 [some (.inr 19)] [.inr 22, .inr 19] (Yi_P3 N) (mzero (mzero (mzero M 20) 21) 22)
  refine sg moP_init (by decide) (by decide) [31] 20 (fun hM => ?_)
  show AJ 1 4 24 mP_init _ 3 18 31 [some (.inr 19)] [.inl 6, .inr 19] (Yi_P3q N) (mzero (mzero (mzero M 20) 21) 22)
  refine A_newarr (n := 6) (dce moP_init (pc := 31) rfl) (by decide) (by decide) (by decide) ?_
  show AJ 1 4 24 mP_init _ 4 24 33 [some (.inr 19)] [.inr 23, .inr 19] (Yi_P4 N) (mzero (mzero (mzero (mzero M 20) 21) 22) 23)
  refine sgE moP_init rfl (by decide) [] 20 (fun hM => ?_)
  exact ⟨rfl, rfl, rfl⟩
/-- the memory behind the class's constructor -/
def KM (M : Mm) : Mm := (mzero (mzero (mzero (mzero (mzero (mzero (mzero (mzero (mzero (mzero (mzero (flM 11 (-9) (flM 10 (-9) (mset (mzero (mzero (mzero (mzero (flM 7 (-9) (flM 6 (-9) (mset (mzero (mzero (mzero (mzero (mvs (mvs (mzero M 2) 3 fPr) 4 fRe) 5) 6) 7) 8) 5 0 1) 30) 30) 9) 10) 11) 12) 9 0 (-1)) 30) 30) 13) 14) 15) 16) 17) 18) 19) 20) 21) 22) 23)
theorem i_K {N : Nat} {M : Mm} : Ret 2 22 1359 mK_init [.inr 1] (YK0 N) M (fun r S' M' => r = none ∧ S' = YK5 N ∧ M' = KM M) := by
  refine Ret.ofAJ (by rw [mtb0_len]; decide) (fun r h => by cases (show some rK_init = some r from h); decide) (fun hM0 => ?_)
  refine sg moK_init (by decide) (by decide) [5] 20 (fun hM => ?_)
  show AJ 2 22 1359 mK_init _ 0 0 5 [some (.inr 1)] [.inr 1] (YK0 N) M
  refine A_new (ci := 3) (fs := [some none, some none]) (dce moK_init (pc := 5) rfl) (oce moK_init (pc := 5) rfl) rfl rfl rfl (by decide +kernel) (by decide) (by decide) (by decide) ?_
  show AJ 2 22 1359 mK_init _ 1 2 8 [some (.inr 1)] [.inr 2, .inr 1] (YU0 N) (mzero M 2)
  refine sg moK_init (by decide) (by decide) [9] 20 (fun hM => ?_)
  show AJ 2 22 1359 mK_init _ 1 2 9 [some (.inr 1)] ([.inr 2].reverse ++ [.inr 2, .inr 1]) (YU0 N) (mzero M 2)
  refine A_callI (ini := true) (st := []) (as := [.inr 2]) (rest := [.inr 2, .inr 1]) (dce moK_init (pc := 9) rfl) (oce moK_init (pc := 9) rfl) rfl rfl rfl (fun r h => by cases (show some rU_init = some r from h); rfl) (by decide) (by decide) (by decide) (by decide) i_U ?_
  rintro r S' M' ⟨rfl, rfl, rfl⟩ hM'
  show AJ 2 22 1359 mK_init _ 3 39 12 [some (.inr 1)] [.inr 2, .inr 1] (YU3 N) (mvs (mvs (mzero M 2) 3 fPr) 4 fRe)
  refine sg moK_init (by decide) (by decide) [16] 20 (fun hM => ?_)
  show AJ 2 22 1359 mK_init _ 3 39 16 [some (.inr 1)] [.inr 1] (YK1 N) (mvs (mvs (mzero M 2) 3 fPr) 4 fRe)
  refine A_new (ci := 0) (fs := [none, some none, some none, some none, none, none, none, none]) (dce moK_init (pc := 16) rfl) (oce moK_init (pc := 16) rfl) rfl rfl rfl (by decide +kernel) (by decide) (by decide) (by decide) ?_
  show AJ 2 22 1359 mK_init _ 4 47 19 [some (.inr 1)] [.inr 5, .inr 1] (Yi_H50 N) (mzero (mvs (mvs (mzero M 2) 3 fPr) 4 fRe) 5)
  refine sg moK_init (by decide) (by decide) [21] 20 (fun hM => ?_)
  show AJ 2 22 1359 mK_init _ 4 47 21 [some (.inr 1)] ([.inr 5, .inl 1].reverse ++ [.inr 5, .inr 1]) (Yi_H50 N) (mzero (mvs (mvs (mzero M 2) 3 fPr) 4 fRe) 5)
  refine A_callI (ini := true) (st := []) (as := [.inr 5, .inl 1]) (rest := [.inr 5, .inr 1]) (dce moK_init (pc := 21) rfl) (oce moK_init (pc := 21) rfl) rfl rfl rfl (fun r h => by cases (show some rH_init = some r from h); rfl) (by decide) (by decide) (by decide) (by decide) i_H5 ?_
  rintro r S' M' ⟨rfl, rfl, rfl⟩ hM'
  generalize hX5 : (flM 7 (-9) (flM 6 (-9) (mset (mzero (mzero (mzero (mzero (mvs (mvs (mzero M 2) 3 fPr) 4 fRe) 5) 6) 7) 8) 5 0 1) 30) 30) = X5 at hM'
  show AJ 2 22 1359 mK_init _ 7 137 24 [some (.inr 1)] [.inr 5, .inr 1] (Yi_H5F N) X5
  refine sg moK_init (by decide) (by decide) [28] 20 (fun hM => ?_)
  show AJ 2 22 1359 mK_init _ 7 137 28 [some (.inr 1)] [.inr 1] (YK2 N) X5
  refine A_new (ci := 0) (fs := [none, some none, some none, some none, none, none, none, none]) (dce moK_init (pc := 28) rfl) (oce moK_init (pc := 28) rfl) rfl rfl rfl (by decide +kernel) (by decide) (by decide) (by decide) ?_
  show AJ 2 22 1359 mK_init _ 8 145 31 [some (.inr 1)] [.inr 9, .inr 1] (Yi_H90 N) (mzero X5 9)
  refine sg moK_init (by decide) (by decide) [33] 20 (fun hM => ?_)
  show AJ 2 22 1359 mK_init _ 8 145 33 [some (.inr 1)] ([.inr 9, .inl (-1)].reverse ++ [.inr 9, .inr 1]) (Yi_H90 N) (mzero X5 9)
  refine A_callI (ini := true) (st := []) (as := [.inr 9, .inl (-1)]) (rest := [.inr 9, .inr 1]) (dce moK_init (pc := 33) rfl) (oce moK_init (pc := 33) rfl) rfl rfl rfl (fun r h => by cases (show some rH_init = some r from h); rfl) (by decide) (by decide) (by decide) (by decide) i_H9 ?_
  rintro r S' M' ⟨rfl, rfl, rfl⟩ hM'
  generalize hX9 : (flM 11 (-9) (flM 10 (-9) (mset (mzero (mzero (mzero (mzero X5 9) 10) 11) 12) 9 0 (-1)) 30) 30) = X9 at hM'
  show AJ 2 22 1359 mK_init _ 11 235 36 [some (.inr 1)] [.inr 9, .inr 1] (Yi_H9F N) X9
  refine sg moK_init (by decide) (by decide) [40] 20 (fun hM => ?_)
  show AJ 2 22 1359 mK_init _ 11 235 40 [some (.inr 1)] [.inr 1] (YK3 N) X9
  refine A_new (ci := 2) (fs := [some none, some none, some none, some none, some none, some none, none, none, none, none]) (dce moK_init (pc := 40) rfl) (oce moK_init (pc := 40) rfl) rfl rfl rfl (by decide +kernel) (by decide) (by decide) (by decide) ?_
  show AJ 2 22 1359 mK_init _ 12 245 43 [some (.inr 1)] [.inr 13, .inr 1] (Yi_R0 N) (mzero X9 13)
  refine sg moK_init (by decide) (by decide) [48] 20 (fun hM => ?_)
  show AJ 2 22 1359 mK_init _ 12 245 48 [some (.inr 1)] ([.inr 13, .inr 2].reverse ++ [.inr 13, .inr 1]) (Yi_R0 N) (mzero X9 13)
  refine A_callI (ini := true) (st := []) (as := [.inr 13, .inr 2]) (rest := [.inr 13, .inr 1]) (dce moK_init (pc := 48) rfl) (oce moK_init (pc := 48) rfl) rfl rfl rfl (fun r h => by cases (show some rR_init = some r from h); rfl) (by decide) (by decide) (by decide) (by decide) i_R ?_
  rintro r S' M' ⟨rfl, rfl, rfl⟩ hM'
  generalize hX13 : (mzero (mzero (mzero (mzero (mzero (mzero X9 13) 14) 15) 16) 17) 18) = X13 at hM'
  show AJ 2 22 1359 mK_init _ 17 1330 51 [some (.inr 1)] [.inr 13, .inr 1] (Yi_RF N) X13
  refine sg moK_init (by decide) (by decide) [55] 20 (fun hM => ?_)
  show AJ 2 22 1359 mK_init _ 17 1330 55 [some (.inr 1)] [.inr 1] (YK4 N) X13
  refine A_new (ci := 1) (fs := [some none, some none, some none, some none, none]) (dce moK_init (pc := 55) rfl) (oce moK_init (pc := 55) rfl) rfl rfl rfl (by decide +kernel) (by decide) (by decide) (by decide) ?_
  show AJ 2 22 1359 mK_init _ 18 1335 58 [some (.inr 1)] [.inr 19, .inr 1] (Yi_P0 N) (mzero X13 19)
  refine sg moK_init (by decide) (by decide) [59] 20 (fun hM => ?_)
  show AJ 2 22 1359 mK_init _ 18 1335 59 [some (.inr 1)] ([.inr 19].reverse ++ [.inr 19, .inr 1]) (Yi_P0 N) (mzero X13 19)
  refine A_callI (ini := true) (st := []) (as := [.inr 19]) (rest := [.inr 19, .inr 1]) (dce moK_init (pc := 59) rfl) (oce moK_init (pc := 59) rfl) rfl rfl rfl (fun r h => by cases (show some rP_init = some r from h); rfl) (by decide) (by decide) (by decide) (by decide) i_P ?_
  rintro r S' M' ⟨rfl, rfl, rfl⟩ hM'
  show AJ 2 22 1359 mK_init _ 22 1359 62 [some (.inr 1)] [.inr 19, .inr 1] (Yi_PF N) (mzero (mzero (mzero (mzero (mzero X13 19) 20) 21) 22) 23)
  refine sgE moK_init rfl (by decide) [] 20 (fun hM => ?_)
  exact ⟨rfl, rfl, by subst hX13; subst hX9; subst hX5; rfl⟩
