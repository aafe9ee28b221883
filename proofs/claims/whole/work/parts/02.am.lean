/-! ===== a machine of pictures: values are ints (Int) or cells (by number; 0 is the script); the memory is a function ===== -/
abbrev Vl : Type := Int ⊕ Nat
abbrev Mm : Type := Nat → Int → Int
abbrev Fk : Type := Option (Option Nat)
abbrev Sh : Type := Nat ⊕ (Nat × List Fk)
abbrev Ly : Type := List Sh
abbrev Lc : Type := List (Option Vl)
abbrev R32 (x : Int) : Prop := -2147483648 ≤ x ∧ x ≤ 2147483647
def MOk (M : Mm) : Prop := ∀ k j, R32 (M k j)
def mset (M : Mm) (a : Nat) (i x : Int) : Mm := fun k j => if k = a ∧ j = i then x else M k j
def mzero (M : Mm) (a : Nat) : Mm := fun k j => if k = a then 0 else M k j
def adr (b0 b : Nat) : Nat → Nat
  | 0 => b
  | k + 1 => b0 + k
def val (b0 b : Nat) : Vl → Value
  | .inl x => .int (Int32.ofInt x)
  | .inr k => .ref (adr b0 b k)
def fv (b0 b : Nat) (M : Mm) (k j : Nat) : Fk → Value
  | none => .int (Int32.ofInt (M k j))
  | some none => .null
  | some (some r) => .ref (adr b0 b r)
def ent (b0 b : Nat) (cA : ClassId) (M : Mm) (k : Nat) : Sh → va_E
  | .inl n => .inl (cA, n, .inl (fun j : Nat => Int32.ofInt (M k j)))
  | .inr q => .inr (q.1, q.2.mapIdx (fun j f => fv b0 b M k j f))
def wl (b0 b : Nat) (cA : ClassId) (T : Ly) (M : Mm) : va_W := T.mapIdx (fun k sh => (b0 + k, ent b0 b cA M (k + 1) sh))
def shp : Ly → Nat → Option Sh
  | [], _ => none
  | a :: _, 0 => some a
  | _ :: t, k + 1 => shp t k
theorem shp_eq : ∀ (S : Ly) (k : Nat), shp S k = S[k]? := by
  intro S
  induction S with
  | nil => intro k; simp [shp]
  | cons a t ih => intro k; cases k with
    | zero => simp [shp]
    | succ k => simp [shp, ih k]
def shf : List Fk → Nat → Option Fk
  | [], _ => none
  | a :: _, 0 => some a
  | _ :: t, k + 1 => shf t k
theorem shf_eq : ∀ (S : List Fk) (k : Nat), shf S k = S[k]? := by
  intro S
  induction S with
  | nil => intro k; simp [shf]
  | cons a t ih => intro k; cases k with
    | zero => simp [shf]
    | succ k => simp [shf, ih k]
def setF : Ly → Nat → Nat → Fk → Ly
  | [], _, _, _ => []
  | .inr q :: t, 0, k, v => .inr (q.1, q.2.set k v) :: t
  | .inl n :: t, 0, _, _ => .inl n :: t
  | a :: t, j + 1, k, v => a :: setF t j k v
theorem setF_eq : ∀ (S : Ly) (a k : Nat) (v : Fk) (q : Nat × List Fk), S[a]? = some (.inr q) → setF S a k v = S.set a (.inr (q.1, q.2.set k v)) := by
  intro S
  induction S with
  | nil => intro a k v q h; simp at h
  | cons x t ih =>
    intro a k v q h
    cases a with
    | zero => simp at h; subst h; simp [setF]
    | succ a => simp at h; cases x <;> simp [setF, ih a k v q h]
def getL : Lc → Nat → Option Vl
  | [], _ => none
  | a :: _, 0 => a
  | _ :: t, k + 1 => getL t k
def setL : Nat → Lc → Vl → Lc
  | 0, [], v => [some v]
  | 0, _ :: t, v => some v :: t
  | n + 1, [], v => none :: setL n [] v
  | n + 1, a :: t, v => a :: setL n t v
def setK : Nat → Lc → Vl → (Lc → Prop) → Prop
  | 0, [], v, k => k [some v]
  | 0, _ :: t, v, k => k (some v :: t)
  | n + 1, [], v, k => setK n [] v (fun t => k (none :: t))
  | n + 1, a :: t, v, k => setK n t v (fun t' => k (a :: t'))
theorem setK_eq : ∀ (n : Nat) (L : Lc) (v : Vl) (k : Lc → Prop), setK n L v k = k (setL n L v) := by
  intro n
  induction n with
  | zero => intro L v k; cases L <;> rfl
  | succ n ih => intro L v k; cases L <;> simp [setK, setL, ih]
theorem getL_setL : ∀ (n : Nat) (L : Lc) (v : Vl) (i : Nat), getL (setL n L v) i = if i = n then some v else getL L i := by
  intro n
  induction n with
  | zero => intro L v i; cases L <;> cases i <;> simp [setL, getL]
  | succ n ih => intro L v i; cases L <;> cases i <;> simp [setL, getL, ih]
def popK : Nat → List Vl → List Vl → (List Vl → List Vl → Prop) → Prop
  | 0, st, acc, k => k acc st
  | n + 1, v :: st, acc, k => popK n st (v :: acc) k
  | _ + 1, [], _, _ => False
def pushO : Option Vl → List Vl → List Vl
  | none, st => st
  | some v, st => v :: st
def lk1 {α : Type} : Nat → List (Nat × α) → Option α
  | _, [] => none
  | i, (a, r) :: t => bif Nat.beq i a then some r else lk1 i t
theorem lk1_mem {α : Type} {i : Nat} {r : α} : ∀ {l : List (Nat × α)}, lk1 i l = some r → (i, r) ∈ l := by
  intro l
  induction l with
  | nil => intro h; cases h
  | cons p t ih =>
    obtain ⟨a, q⟩ := p
    intro h
    unfold lk1 at h
    cases hb : Nat.beq i a with
    | true =>
      rw [hb] at h
      have := Nat.eq_of_beq_eq_true hb
      subst this
      simp at h; subst h
      exact List.mem_cons_self
    | false => rw [hb] at h; exact List.mem_cons_of_mem _ (ih h)
def memb : List Nat → Nat → Bool
  | [], _ => false
  | a :: t, i => bif Nat.beq i a then true else memb t i
theorem memb_mem {i : Nat} : ∀ {l : List Nat}, memb l i = true → i ∈ l := by
  intro l
  induction l with
  | nil => intro h; cases h
  | cons a t ih =>
    intro h
    unfold memb at h
    cases hb : Nat.beq i a with
    | true => have := Nat.eq_of_beq_eq_true hb; subst this; exact List.mem_cons_self
    | false => rw [hb] at h; exact List.mem_cons_of_mem _ (ih h)
def andI (x y : Int) : Int := (Int32.ofInt x &&& Int32.ofInt y).toInt
def shlI (x y : Int) : Int := (Int32.ofInt x <<< (Int32.ofInt y &&& 31)).toInt
def shrI (x y : Int) : Int := (Int32.ofInt x >>> (Int32.ofInt y &&& 31)).toInt
def divI (x y : Int) : Int := (Int32.ofInt x / Int32.ofInt y).toInt
def remI (x y : Int) : Int := (Int32.ofInt x - Int32.ofInt x / Int32.ofInt y * Int32.ofInt y).toInt
def cmpP : Jvm.ClassFile.Cond → Int → Int → Prop
  | .eq, x, y => x = y
  | .ne, x, y => x ≠ y
  | .lt, x, y => x < y
  | .ge, x, y => y ≤ x
  | .gt, x, y => y < x
  | .le, x, y => x ≤ y
def brn : Jvm.ClassFile.Cond → Int → Int → Prop → Prop → Prop
  | .eq, x, y, A, B => if x = y then A else B
  | .ne, x, y, A, B => if x = y then B else A
  | .lt, x, y, A, B => if x < y then A else B
  | .ge, x, y, A, B => if x < y then B else A
  | .gt, x, y, A, B => if y < x then A else B
  | .le, x, y, A, B => if y < x then B else A
theorem ite_i {c : Prop} [Decidable c] {A B : Prop} (h1 : c → A) (h2 : ¬ c → B) : if c then A else B := by
  split
  · exact h1 ‹_›
  · exact h2 ‹_›
theorem brn_spec {c : Jvm.ClassFile.Cond} {x y : Int} {A B : Prop} (h : brn c x y A B) : (cmpP c x y → A) ∧ (¬ cmpP c x y → B) := by
  cases c with
  | eq => exact ⟨fun q => by simpa [brn, show x = y from q] using h, fun q => by simpa [brn, show ¬ x = y from q] using h⟩
  | ne => exact ⟨fun q => by simpa [brn, show ¬ x = y from q] using h, fun q => by simpa [brn, show x = y from Classical.not_not.mp q] using h⟩
  | lt => exact ⟨fun q => by simpa [brn, show x < y from q] using h, fun q => by simpa [brn, show ¬ x < y from q] using h⟩
  | ge => exact ⟨fun q => by simpa [brn, show ¬ x < y from Int.not_lt.mpr q] using h, fun q => by simpa [brn, show x < y from Int.not_le.mp q] using h⟩
  | gt => exact ⟨fun q => by simpa [brn, show y < x from q] using h, fun q => by simpa [brn, show ¬ y < x from q] using h⟩
  | le => exact ⟨fun q => by simpa [brn, show ¬ y < x from Int.not_lt.mpr q] using h, fun q => by simpa [brn, show y < x from Int.not_le.mp q] using h⟩
def swK (x : Int) : List (Int × Nat) → (Nat → Prop) → Prop
  | [], _ => True
  | (v, t) :: l, k => (x = v → k t) ∧ swK x l k
theorem i32_toInt {x : Int} (h : R32 x) : (Int32.ofInt x).toInt = x := Int32.toInt_ofInt_of_le (by omega) (by omega)
theorem R32_toInt (x : Int32) : R32 x.toInt := by
  have h1 := x.le_toInt
  have h2 := x.toInt_lt
  constructor <;> omega
theorem i8_32 {n : Int} (h1 : -128 ≤ n) (h2 : n ≤ 127) : (Int8.ofInt n).toInt32 = Int32.ofInt n := by
  have e1 : Int8.minValue.toInt = -128 := by decide +kernel
  have e2 : Int8.maxValue.toInt = 127 := by decide +kernel
  exact Int8.toInt32_ofInt (by omega) (by omega)
theorem i16_32 {n : Int} (h1 : -32768 ≤ n) (h2 : n ≤ 32767) : (Int16.ofInt n).toInt32 = Int32.ofInt n := by
  have e1 : Int16.minValue.toInt = -32768 := by decide +kernel
  have e2 : Int16.maxValue.toInt = 32767 := by decide +kernel
  exact Int16.toInt32_ofInt (by omega) (by omega)
theorem i32_lt {x y : Int} (hx : R32 x) (hy : R32 y) : Int32.ofInt x < Int32.ofInt y ↔ x < y := by rw [Int32.lt_iff_toInt_lt, i32_toInt hx, i32_toInt hy]
theorem i32_le {x y : Int} (hx : R32 x) (hy : R32 y) : Int32.ofInt x ≤ Int32.ofInt y ↔ x ≤ y := by rw [Int32.le_iff_toInt_le, i32_toInt hx, i32_toInt hy]
theorem i32_eq {x y : Int} (hx : R32 x) (hy : R32 y) : Int32.ofInt x = Int32.ofInt y ↔ x = y := by rw [← Int32.toInt_inj, i32_toInt hx, i32_toInt hy]
theorem i32_zero : (0 : Int32) = Int32.ofInt 0 := by decide +kernel
theorem i32_nat {x : Int} (h : R32 x) : (Int32.ofInt x).toNatClampNeg = x.toNat := Int32.toNatClampNeg_ofInt_of_le (by omega) (by omega)
theorem i32_in {x : Int} {n : Nat} (h0 : 0 ≤ x) (h1 : x < (n : Int)) (h : R32 x) : vp_in (Int32.ofInt x) n := by
  rw [vp_in_iff, i32_toInt h]; exact ⟨h0, h1⟩
/-! ===== worlds ===== -/
def WD (dC : Nat → ClassId) (dI : Nat → Nat → Nat) (cA : ClassId) (b0 b N : Nat) (xs : Nat → Int32) (S : Ly) (M : Mm) (H : Heap) : Prop :=
  ∃ T : Ly, S = .inl N :: T ∧ MOk M ∧ (∀ j : Nat, j < N → M 0 j = (xs j).toInt) ∧ va_P (dC, dI) vwCl (wl b0 b cA T M) H
def fPrL : List Int := [3, 1, 2, 8, 3, 1, 1]
def fReL : List Int := [1, 5, 8, 2, 7, 10, 3, 9, 12, 5, 11, 14, 1, 2, 4, 2, 4, 6, 3, 6, 9, 1, 2, 3, 2, 4, 6, 1, 2, 4]
def fPr : Nat → Int32 := fun j => Int32.ofInt (fPrL.getD j 0)
def fRe : Nat → Int32 := fun j => Int32.ofInt (fReL.getD j 0)
/-- a constant array of the class -/
def ZA (nm : String) (k : Nat) (vs : Nat → Int32) (cA : ClassId) (b0 : Nat) (U : State) : Prop := ∃ (a : Nat) (cell : Cell), va_Z "KeyFingers" nm "[I" (.ref a) (fun q => b0 ≤ q) U U.heap ∧ U.heap[a]? = some cell ∧ cell.cls = cA ∧ (∀ k, cell.vm ≠ .statics k) ∧ cell.vm ≠ .unknown ∧ cell.slots = (vp_cell cA (k, .inl vs)).slots ∧ a < b0
def ZF (cA : ClassId) (b0 : Nat) (U : State) : Prop := ZA "FIRST_PRICES" 7 fPr cA b0 U ∧ ZA "FIRST_REACHES" 30 fRe cA b0 U ∧ va_Nw (.fieldLinkNest "KeyFingers$Rules" 9 "KeyFingers" "FIRST_PRICES" "[I" "KeyFingers") U ∧ va_Nw (.fieldLinkNest "KeyFingers$Rules" 23 "KeyFingers" "FIRST_REACHES" "[I" "KeyFingers") U ∧ va_Nw (.castable "[I" "java/lang/Cloneable") U
theorem ZA.to {nm : String} {k : Nat} {vs : Nat → Int32} {cA : ClassId} {b0 : Nat} {s U : State} {H : Heap} {locs : List Loc} (h : ZA nm k vs cA b0 s) (hS : va_S (fun q => b0 ≤ q) s.heap H locs) (hb : b0 ≤ s.heap.size) (hU : U.heap = H) (hW : s.vm.Alike U.vm) : ZA nm k vs cA b0 U := by
  obtain ⟨a, cell, h1, h2, h3, h4, h5, h6, h7⟩ := h
  refine ⟨a, cell, va_Z.moved hW (va_Z.kept h1 (fun q q1 q2 => by rw [hU]; exact hS.2.1 q q1 q2)), ?_, h3, h4, h5, h6, h7⟩
  rw [hU, hS.2.1 a (Nat.lt_of_lt_of_le h7 hb) (Nat.not_le.mpr h7)]
  exact h2
theorem ZF.to {cA : ClassId} {b0 : Nat} {s U : State} {H : Heap} {locs : List Loc} (h : ZF cA b0 s) (hS : va_S (fun q => b0 ≤ q) s.heap H locs) (hb : b0 ≤ s.heap.size) (hU : U.heap = H) (hW : s.WarmedH U.vm) : ZF cA b0 U := ⟨h.1.to hS hb hU hW.alike, h.2.1.to hS hb hU hW.alike, va_Nw.warmF hW h.2.2.1, va_Nw.warmF hW h.2.2.2.1, va_Nw.warmC hW h.2.2.2.2⟩
theorem ZA.same {nm : String} {k : Nat} {vs : Nat → Int32} {cA : ClassId} {b0 : Nat} {u U : State} (h : ZA nm k vs cA b0 u) (hH : U.heap = u.heap) (hW : u.vm.Alike U.vm) : ZA nm k vs cA b0 U := by
  obtain ⟨a, cell, h1, h2, h3, h4, h5, h6, h7⟩ := h
  exact ⟨a, cell, va_Z.moved hW (by rw [hH]; exact h1), by rw [hH]; exact h2, h3, h4, h5, h6, h7⟩
def SF (dC : Nat → ClassId) (dI : Nat → Nat → Nat) (cA : ClassId) (b0 b N : Nat) (xs : Nat → Int32) (U : State) : Prop :=
  va_K (dC, dI) vwCl [(cA, .int)] U ∧ (∀ q ∈ nests, va_Nw (.methodLinkNest q.1 q.2.1 q.2.2.1 q.2.2.2) U) ∧ va_X b N xs U U.heap ∧ b < b0 ∧ b0 ≤ U.heap.size ∧ N < 2 ^ 31 ∧ ZF cA b0 U
abbrev rmm (d mc ms : Nat) : Room := { frames := d, cells := mc, slots := ms, locals := 40 * d }
def QQ (mc : Nat) (dC : Nat → ClassId) (dI : Nat → Nat → Nat) (cA : ClassId) (b0 b N : Nat) (xs : Nat → Int32) (Φ : Option Vl → Ly → Mm → Prop) : Array Value → State → Outcome → State → Prop := fun _ st oc t =>
  (∃ (r : Option Vl) (S : Ly) (M : Mm), oc = .returned (r.map (val b0 b)) ∧ Φ r S M ∧ WD dC dI cA b0 b N xs S M t.heap ∧ st.heap.size + mc + 1 = b0 + S.length) ∧ va_F (fun q => b0 ≤ q) st t
/-- a method's contract -/
def Ret (d mc ms y : Nat) (as : List Vl) (S : Ly) (M : Mm) (Φ : Option Vl → Ly → Mm → Prop) : Prop :=
  ∀ r : MRec, mtb[y]? = some r → ∀ (l : Launch) (dC : Nat → ClassId) (dI : Nat → Nat → Nat) (cA : ClassId) (b0 b N : Nat) (xs : Nat → Int32),
    Met l r.1 (wMc r :: MW) (rmm d mc ms) (va_Pc (as.map (val b0 b)) (fun U => WD dC dI cA b0 b N xs S M U.heap ∧ SF dC dI cA b0 b N xs U ∧ U.heap.size + 1 = b0 + S.length)) (QQ mc dC dI cA b0 b N xs Φ) mc ms (fun q => b0 ≤ q)
def LV (b0 b : Nat) (ls : Array Slot) (nL : Nat) (L : Lc) : Prop := ls.size = nL ∧ lv_wf ls ∧ ∀ (i : Nat) (v : Vl), getL L i = some v → ls[i]? = some (.val (val b0 b v))
def CX (r : MRec) (dC : Nat → ClassId) (dI : Nat → Nat → Nat) (cA : ClassId) (b0 b N : Nat) (xs : Nat → Int32) (p : Program) (s : State) (m : MethodId) (args : Array Value) (meth : Method) (c : Code) : Prop :=
  p.tables.exec = Jvm.exec ∧ c.code = r.2.1 ∧ meth.sig.returnType = r.2.2.2.1 ∧ c.maxLocals = r.2.2.1 ∧ s.vm.findClass (cnm r.2.2.2.2.2) = some m.cls ∧ (∀ w ∈ MW, w.before args s = true) ∧ meth.locks = false ∧ (r.1.name = "<init>" → meth.name = "<init>") ∧ SF dC dI cA b0 b N xs s
/-- inside a method: from pc with these locals, stack, memory it comes to its end with Φ -/
def AJ (d mc ms y : Nat) (Φ : Option Vl → Ly → Mm → Prop) (kc ks pc : Nat) (L : Lc) (st : List Vl) (S : Ly) (M : Mm) : Prop :=
  ∀ r : MRec, mtb[y]? = some r → ∀ (l : Launch) (dC : Nat → ClassId) (dI : Nat → Nat → Nat) (cA : ClassId) (b0 b N : Nat) (xs : Nat → Int32) (p : Program) (e : Env) (s : State) (m : MethodId) (args : Array Value) (below : List Frame) (meth : Method) (c : Code) (H : Heap) (locs : List Loc) (ls : Array Slot),
    CX r dC dI cA b0 b N xs p s m args meth c → WD dC dI cA b0 b N xs S M H → va_S (fun q => b0 ≤ q) s.heap H locs → s.heap.size + kc + 1 = b0 + S.length → LV b0 b ls r.2.2.1 L →
    W p l e (rmm d mc ms) s m args below meth c H locs kc ks (MQ below (QQ mc dC dI cA b0 b N xs Φ) args s mc ms (fun q => b0 ≤ q)) (F0 m pc ls (st.map (val b0 b)))
def DC (y pc : Nat) (i : Instr) (n : Nat) : Prop := ∀ r : MRec, mtb[y]? = some r → decode r.2.1 pc = .ok (i, n)
/-- the class of a method is a class of the tables -/
def OC (y o : Nat) : Prop := o < nCl ∧ ∀ r : MRec, mtb[y]? = some r → r.2.2.2.2.2 = o
theorem AJ.MOk_ {d mc ms y : Nat} {Φ : Option Vl → Ly → Mm → Prop} {kc ks pc : Nat} {L : Lc} {st : List Vl} {S : Ly} {M : Mm} (h : MOk M → AJ d mc ms y Φ kc ks pc L st S M) : AJ d mc ms y Φ kc ks pc L st S M := by
  intro r hr l dC dI cA b0 b N xs p e s m args below meth c H locs ls C hW hS hz hL
  obtain ⟨T, h1, h3, h4, h5⟩ := id hW
  exact h h3 r hr l dC dI cA b0 b N xs p e s m args below meth c H locs ls C hW hS hz hL
theorem wl_get (b0 b : Nat) (cA : ClassId) (T : Ly) (M : Mm) (k : Nat) : (wl b0 b cA T M)[k]? = (T[k]?).map (fun sh => (b0 + k, ent b0 b cA M (k + 1) sh)) := by
  unfold wl; rw [List.getElem?_mapIdx]
theorem wl_D (b0 b : Nat) (cA : ClassId) (T : Ly) (M : Mm) : va_D (fun q => b0 ≤ q) (wl b0 b cA T M) := by
  refine ⟨fun i j p q hi hj h => ?_, fun k q hk => ?_⟩
  · rw [wl_get] at hi hj
    obtain ⟨_, _, rfl⟩ := Option.map_eq_some_iff.mp hi
    obtain ⟨_, _, rfl⟩ := Option.map_eq_some_iff.mp hj
    simp at h; exact h
  · rw [wl_get] at hk
    obtain ⟨_, _, rfl⟩ := Option.map_eq_some_iff.mp hk
    exact Nat.le_add_right _ _
theorem LV.set {b0 b : Nat} {ls ls' : Array Slot} {nL i : Nat} {L : Lc} {v : Vl} (h : LV b0 b ls nL L) (h' : storeLocals ls i (val b0 b v) = some ls') (hi : i < nL) : LV b0 b ls' nL (setL i L v) := by
  have hc : (val b0 b v).category = 1 := by cases v <;> rfl
  refine ⟨?_, ?_, fun j w hj => ?_⟩
  · obtain ⟨l2, e2, q2⟩ := lv_store1 (l := []) ⟨h.1, h.2.1, fun q hq => (by cases hq)⟩ hi hc
    cases e2.symm.trans h'
    exact q2.1
  · obtain ⟨l2, e2, q2⟩ := lv_store1 (l := []) ⟨h.1, h.2.1, fun q hq => (by cases hq)⟩ hi hc
    cases e2.symm.trans h'
    exact q2.2.1
  · rw [getL_setL] at hj
    by_cases hij : j = i
    · subst hij
      simp at hj; subst hj
      obtain ⟨l2, e2, q2⟩ := lv_store1 (l := []) ⟨h.1, h.2.1, fun q hq => (by cases hq)⟩ hi hc
      cases e2.symm.trans h'
      exact q2.2.2 _ List.mem_cons_self
    · rw [if_neg hij] at hj
      obtain ⟨l2, e2, q2⟩ := lv_store1 (l := [(j, val b0 b w)]) ⟨h.1, h.2.1, fun q hq => by
        rcases List.mem_cons.mp hq with rfl | hq
        · exact h.2.2 j w hj
        · cases hq⟩ hi hc
      cases e2.symm.trans h'
      have hcw : (val b0 b w).category = 1 := by cases w <;> rfl
      exact q2.2.2 (j, val b0 b w) (List.mem_cons_of_mem _ (List.mem_filter.mpr ⟨List.mem_cons_self, by simp [hij, hcw]⟩))
theorem LV.has {b0 b : Nat} {ls : Array Slot} {nL : Nat} {L : Lc} (h : LV b0 b ls nL L) : lv_has ls nL [] := ⟨h.1, h.2.1, fun q hq => (by cases hq)⟩

theorem A_iload {d mc ms y : Nat} {Φ : Option Vl → Ly → Mm → Prop} {kc ks pc : Nat} {L : Lc} {st : List Vl} {S : Ly} {M : Mm} {i : Nat} {x : Int} (hd : DC y pc (.iload i) 2) (hg : getL L i = some (.inl x)) (k : AJ d mc ms y Φ kc ks (pc + 2) L (.inl x :: st) S M) : AJ d mc ms y Φ kc ks pc L st S M := by
  intro r hr l dC dI cA b0 b N xs p e s m args below meth c H locs ls C hW hS hz hL
  have K := k r hr l dC dI cA b0 b N xs p e s m args below meth c H locs ls C hW hS hz hL
  obtain ⟨hx, hb, hrt, hml, hown, hts, hlk, hnm, hSF⟩ := id C
  exact lv_iload hx hb (hd r hr) (hL.2.2 _ _ hg) K
theorem A_iload_n {d mc ms y : Nat} {Φ : Option Vl → Ly → Mm → Prop} {kc ks pc : Nat} {L : Lc} {st : List Vl} {S : Ly} {M : Mm} {i : Fin 4} {x : Int} (hd : DC y pc (.iload_n i) 1) (hg : getL L i.val = some (.inl x)) (k : AJ d mc ms y Φ kc ks (pc + 1) L (.inl x :: st) S M) : AJ d mc ms y Φ kc ks pc L st S M := by
  intro r hr l dC dI cA b0 b N xs p e s m args below meth c H locs ls C hW hS hz hL
  have K := k r hr l dC dI cA b0 b N xs p e s m args below meth c H locs ls C hW hS hz hL
  obtain ⟨hx, hb, hrt, hml, hown, hts, hlk, hnm, hSF⟩ := id C
  exact lv_iload_n hx hb (hd r hr) rfl (hL.2.2 _ _ hg) K
theorem A_aload {d mc ms y : Nat} {Φ : Option Vl → Ly → Mm → Prop} {kc ks pc : Nat} {L : Lc} {st : List Vl} {S : Ly} {M : Mm} {i : Nat} {x : Nat} (hd : DC y pc (.aload i) 2) (hg : getL L i = some (.inr x)) (k : AJ d mc ms y Φ kc ks (pc + 2) L (.inr x :: st) S M) : AJ d mc ms y Φ kc ks pc L st S M := by
  intro r hr l dC dI cA b0 b N xs p e s m args below meth c H locs ls C hW hS hz hL
  have K := k r hr l dC dI cA b0 b N xs p e s m args below meth c H locs ls C hW hS hz hL
  obtain ⟨hx, hb, hrt, hml, hown, hts, hlk, hnm, hSF⟩ := id C
  exact lv_aload hx hb (hd r hr) (hL.2.2 _ _ hg) K
theorem A_aload_n {d mc ms y : Nat} {Φ : Option Vl → Ly → Mm → Prop} {kc ks pc : Nat} {L : Lc} {st : List Vl} {S : Ly} {M : Mm} {i : Fin 4} {x : Nat} (hd : DC y pc (.aload_n i) 1) (hg : getL L i.val = some (.inr x)) (k : AJ d mc ms y Φ kc ks (pc + 1) L (.inr x :: st) S M) : AJ d mc ms y Φ kc ks pc L st S M := by
  intro r hr l dC dI cA b0 b N xs p e s m args below meth c H locs ls C hW hS hz hL
  have K := k r hr l dC dI cA b0 b N xs p e s m args below meth c H locs ls C hW hS hz hL
  obtain ⟨hx, hb, hrt, hml, hown, hts, hlk, hnm, hSF⟩ := id C
  exact lv_aload_n hx hb (hd r hr) rfl (hL.2.2 _ _ hg) K
/-- a local that a method stores is one of its locals -/
def LT (y i : Nat) : Prop := ∀ r : MRec, mtb[y]? = some r → i < r.2.2.1
theorem A_istore {d mc ms y : Nat} {Φ : Option Vl → Ly → Mm → Prop} {kc ks pc : Nat} {L : Lc} {st : List Vl} {S : Ly} {M : Mm} {i : Nat} {x : Int} (hd : DC y pc (.istore i) 2) (hi : LT y i) (k : AJ d mc ms y Φ kc ks (pc + 2) (setL i L (.inl x)) st S M) : AJ d mc ms y Φ kc ks pc L (.inl x :: st) S M := by
  intro r hr l dC dI cA b0 b N xs p e s m args below meth c H locs ls C hW hS hz hL
  obtain ⟨hx, hb, hrt, hml, hown, hts, hlk, hnm, hSF⟩ := id C
  obtain ⟨ls', e', -⟩ := lv_store1 (v := .int (Int32.ofInt x)) hL.has (hi r hr) rfl
  have K := k r hr l dC dI cA b0 b N xs p e s m args below meth c H locs ls' C hW hS hz (hL.set (v := .inl x) e' (hi r hr))
  have hdg := hd r hr
  show W _ _ _ _ _ _ _ _ _ _ _ _ _ _ _ (F0 m pc ls (.int (Int32.ofInt x) :: st.map (val b0 b)))
  intro T hT X
  obtain ⟨t, a, b1⟩ := K T hT X
  refine ⟨t, ?_, b1⟩
  jvm_step X.here [X.here.top, ↓top_set X.here.top, hx, hb, hdg, e']
  exact a
theorem A_istore_n {d mc ms y : Nat} {Φ : Option Vl → Ly → Mm → Prop} {kc ks pc : Nat} {L : Lc} {st : List Vl} {S : Ly} {M : Mm} {i : Fin 4} {x : Int} (hd : DC y pc (.istore_n i) 1) (hi : LT y i.val) (k : AJ d mc ms y Φ kc ks (pc + 1) (setL i.val L (.inl x)) st S M) : AJ d mc ms y Φ kc ks pc L (.inl x :: st) S M := by
  intro r hr l dC dI cA b0 b N xs p e s m args below meth c H locs ls C hW hS hz hL
  obtain ⟨hx, hb, hrt, hml, hown, hts, hlk, hnm, hSF⟩ := id C
  obtain ⟨ls', e', -⟩ := lv_store1 (v := .int (Int32.ofInt x)) hL.has (hi r hr) rfl
  have K := k r hr l dC dI cA b0 b N xs p e s m args below meth c H locs ls' C hW hS hz (hL.set (v := .inl x) e' (hi r hr))
  have hdg := hd r hr
  show W _ _ _ _ _ _ _ _ _ _ _ _ _ _ _ (F0 m pc ls (.int (Int32.ofInt x) :: st.map (val b0 b)))
  intro T hT X
  obtain ⟨t, a, b1⟩ := K T hT X
  refine ⟨t, ?_, b1⟩
  jvm_step X.here [X.here.top, ↓top_set X.here.top, hx, hb, hdg, e']
  exact a
theorem A_astore {d mc ms y : Nat} {Φ : Option Vl → Ly → Mm → Prop} {kc ks pc : Nat} {L : Lc} {st : List Vl} {S : Ly} {M : Mm} {i : Nat} {x : Nat} (hd : DC y pc (.astore i) 2) (hi : LT y i) (k : AJ d mc ms y Φ kc ks (pc + 2) (setL i L (.inr x)) st S M) : AJ d mc ms y Φ kc ks pc L (.inr x :: st) S M := by
  intro r hr l dC dI cA b0 b N xs p e s m args below meth c H locs ls C hW hS hz hL
  obtain ⟨hx, hb, hrt, hml, hown, hts, hlk, hnm, hSF⟩ := id C
  obtain ⟨ls', e', -⟩ := lv_store1 (v := .ref (adr b0 b x)) hL.has (hi r hr) rfl
  have K := k r hr l dC dI cA b0 b N xs p e s m args below meth c H locs ls' C hW hS hz (hL.set (v := .inr x) e' (hi r hr))
  have hdg := hd r hr
  show W _ _ _ _ _ _ _ _ _ _ _ _ _ _ _ (F0 m pc ls (.ref (adr b0 b x) :: st.map (val b0 b)))
  intro T hT X
  obtain ⟨t, a, b1⟩ := K T hT X
  refine ⟨t, ?_, b1⟩
  jvm_step X.here [X.here.top, ↓top_set X.here.top, hx, hb, hdg, e', Value.isRef]
  exact a
theorem A_astore_n {d mc ms y : Nat} {Φ : Option Vl → Ly → Mm → Prop} {kc ks pc : Nat} {L : Lc} {st : List Vl} {S : Ly} {M : Mm} {i : Fin 4} {x : Nat} (hd : DC y pc (.astore_n i) 1) (hi : LT y i.val) (k : AJ d mc ms y Φ kc ks (pc + 1) (setL i.val L (.inr x)) st S M) : AJ d mc ms y Φ kc ks pc L (.inr x :: st) S M := by
  intro r hr l dC dI cA b0 b N xs p e s m args below meth c H locs ls C hW hS hz hL
  obtain ⟨hx, hb, hrt, hml, hown, hts, hlk, hnm, hSF⟩ := id C
  obtain ⟨ls', e', -⟩ := lv_store1 (v := .ref (adr b0 b x)) hL.has (hi r hr) rfl
  have K := k r hr l dC dI cA b0 b N xs p e s m args below meth c H locs ls' C hW hS hz (hL.set (v := .inr x) e' (hi r hr))
  have hdg := hd r hr
  show W _ _ _ _ _ _ _ _ _ _ _ _ _ _ _ (F0 m pc ls (.ref (adr b0 b x) :: st.map (val b0 b)))
  intro T hT X
  obtain ⟨t, a, b1⟩ := K T hT X
  refine ⟨t, ?_, b1⟩
  jvm_step X.here [X.here.top, ↓top_set X.here.top, hx, hb, hdg, e', Value.isRef]
  exact a
theorem A_iinc {d mc ms y : Nat} {Φ : Option Vl → Ly → Mm → Prop} {kc ks pc : Nat} {L : Lc} {st : List Vl} {S : Ly} {M : Mm} {i : Nat} {x n : Int} (hd : DC y pc (.iinc i n) 3) (hi : LT y i) (hg : getL L i = some (.inl x)) (k : AJ d mc ms y Φ kc ks (pc + 3) (setL i L (.inl (x + n))) st S M) : AJ d mc ms y Φ kc ks pc L st S M := by
  intro r hr l dC dI cA b0 b N xs p e s m args below meth c H locs ls C hW hS hz hL
  obtain ⟨hx, hb, hrt, hml, hown, hts, hlk, hnm, hSF⟩ := id C
  obtain ⟨ls', e', -⟩ := lv_store1 (v := .int (Int32.ofInt x + Int32.ofInt n)) hL.has (hi r hr) rfl
  have K := k r hr l dC dI cA b0 b N xs p e s m args below meth c H locs ls' C hW hS hz (hL.set (v := .inl (x + n)) (by show storeLocals ls i (.int (Int32.ofInt (x + n))) = _; rw [Int32.ofInt_add]; exact e') (hi r hr))
  have hdg := hd r hr
  have hg' := hL.2.2 _ _ hg
  change ls[i]? = some (.val (.int (Int32.ofInt x))) at hg'
  intro T hT X
  obtain ⟨t, a, b1⟩ := K T hT X
  refine ⟨t, ?_, b1⟩
  jvm_step X.here [X.here.top, ↓top_set X.here.top, hx, hb, hdg, hg', e']
  exact a
theorem A_iconst {d mc ms y : Nat} {Φ : Option Vl → Ly → Mm → Prop} {kc ks pc : Nat} {L : Lc} {st : List Vl} {S : Ly} {M : Mm} {n : Int} (hd : DC y pc (.iconst n) 1) (k : AJ d mc ms y Φ kc ks (pc + 1) L (.inl n :: st) S M) : AJ d mc ms y Φ kc ks pc L st S M := by
  intro r hr l dC dI cA b0 b N xs p e s m args below meth c H locs ls C hW hS hz hL
  have K := k r hr l dC dI cA b0 b N xs p e s m args below meth c H locs ls C hW hS hz hL
  obtain ⟨hx, hb, hrt, hml, hown, hts, hlk, hnm, hSF⟩ := id C
  exact lv_iconst (v := Int32.ofInt n) hx hb (hd r hr) rfl K
theorem A_bipush {d mc ms y : Nat} {Φ : Option Vl → Ly → Mm → Prop} {kc ks pc : Nat} {L : Lc} {st : List Vl} {S : Ly} {M : Mm} {n : Int} (hd : DC y pc (.bipush n) 2) (h1 : -128 ≤ n) (h2 : n ≤ 127) (k : AJ d mc ms y Φ kc ks (pc + 2) L (.inl n :: st) S M) : AJ d mc ms y Φ kc ks pc L st S M := by
  intro r hr l dC dI cA b0 b N xs p e s m args below meth c H locs ls C hW hS hz hL
  have K := k r hr l dC dI cA b0 b N xs p e s m args below meth c H locs ls C hW hS hz hL
  obtain ⟨hx, hb, hrt, hml, hown, hts, hlk, hnm, hSF⟩ := id C
  exact lv_bipush (v := Int32.ofInt n) hx hb (hd r hr) (i8_32 h1 h2) K
theorem A_sipush {d mc ms y : Nat} {Φ : Option Vl → Ly → Mm → Prop} {kc ks pc : Nat} {L : Lc} {st : List Vl} {S : Ly} {M : Mm} {n : Int} (hd : DC y pc (.sipush n) 3) (h1 : -32768 ≤ n) (h2 : n ≤ 32767) (k : AJ d mc ms y Φ kc ks (pc + 3) L (.inl n :: st) S M) : AJ d mc ms y Φ kc ks pc L st S M := by
  intro r hr l dC dI cA b0 b N xs p e s m args below meth c H locs ls C hW hS hz hL
  have K := k r hr l dC dI cA b0 b N xs p e s m args below meth c H locs ls C hW hS hz hL
  obtain ⟨hx, hb, hrt, hml, hown, hts, hlk, hnm, hSF⟩ := id C
  exact lv_sipush (v := Int32.ofInt n) hx hb (hd r hr) (i16_32 h1 h2) K
theorem own_of {y o : Nat} {r : MRec} (ho : OC y o) (hr : mtb[y]? = some r) {s : State} {m : MethodId} (h : s.vm.findClass (cnm r.2.2.2.2.2) = some m.cls) : s.vm.findClass (cnm o) = some m.cls := by
  rw [ho.2 r hr] at h; exact h
theorem A_ldc {d mc ms y : Nat} {Φ : Option Vl → Ly → Mm → Prop} {kc ks pc : Nat} {L : Lc} {st : List Vl} {S : Ly} {M : Mm} {o idx : Nat} {v : Int} (hd : DC y pc (.ldc idx) 2) (ho : OC y o) (hc : lk1 idx (consts o) = some v) (k : AJ d mc ms y Φ kc ks (pc + 2) L (.inl v :: st) S M) : AJ d mc ms y Φ kc ks pc L st S M := by
  intro r hr l dC dI cA b0 b N xs p e s m args below meth c H locs ls C hW hS hz hL
  have K := k r hr l dC dI cA b0 b N xs p e s m args below meth c H locs ls C hW hS hz hL
  obtain ⟨hx, hb, hrt, hml, hown, hts, hlk, hnm, hSF⟩ := id C
  exact lv_ldc hx hb (own_of ho hr hown) (hts _ (MW_K ho.1 (lk1_mem hc) _ (List.mem_singleton.mpr rfl))) (hd r hr) K
theorem A_iadd {d mc ms y : Nat} {Φ : Option Vl → Ly → Mm → Prop} {kc ks pc : Nat} {L : Lc} {st : List Vl} {S : Ly} {M : Mm} {x z : Int} (hd : DC y pc .iadd 1) (k : AJ d mc ms y Φ kc ks (pc + 1) L (.inl (x + z) :: st) S M) : AJ d mc ms y Φ kc ks pc L (.inl z :: .inl x :: st) S M := by
  intro r hr l dC dI cA b0 b N xs p e s m args below meth c H locs ls C hW hS hz hL
  have K := k r hr l dC dI cA b0 b N xs p e s m args below meth c H locs ls C hW hS hz hL
  obtain ⟨hx, hb, hrt, hml, hown, hts, hlk, hnm, hSF⟩ := id C
  refine lv_iadd (x := Int32.ofInt x) (y := Int32.ofInt z) hx hb (hd r hr) ?_
  rw [← Int32.ofInt_add]
  exact K
theorem A_isub {d mc ms y : Nat} {Φ : Option Vl → Ly → Mm → Prop} {kc ks pc : Nat} {L : Lc} {st : List Vl} {S : Ly} {M : Mm} {x z : Int} (hd : DC y pc .isub 1) (k : AJ d mc ms y Φ kc ks (pc + 1) L (.inl (x - z) :: st) S M) : AJ d mc ms y Φ kc ks pc L (.inl z :: .inl x :: st) S M := by
  intro r hr l dC dI cA b0 b N xs p e s m args below meth c H locs ls C hW hS hz hL
  have K := k r hr l dC dI cA b0 b N xs p e s m args below meth c H locs ls C hW hS hz hL
  obtain ⟨hx, hb, hrt, hml, hown, hts, hlk, hnm, hSF⟩ := id C
  refine lv_isub (x := Int32.ofInt x) (y := Int32.ofInt z) hx hb (hd r hr) ?_
  rw [← Int32.ofInt_sub]
  exact K
theorem A_imul {d mc ms y : Nat} {Φ : Option Vl → Ly → Mm → Prop} {kc ks pc : Nat} {L : Lc} {st : List Vl} {S : Ly} {M : Mm} {x z : Int} (hd : DC y pc .imul 1) (k : AJ d mc ms y Φ kc ks (pc + 1) L (.inl (x * z) :: st) S M) : AJ d mc ms y Φ kc ks pc L (.inl z :: .inl x :: st) S M := by
  intro r hr l dC dI cA b0 b N xs p e s m args below meth c H locs ls C hW hS hz hL
  have K := k r hr l dC dI cA b0 b N xs p e s m args below meth c H locs ls C hW hS hz hL
  obtain ⟨hx, hb, hrt, hml, hown, hts, hlk, hnm, hSF⟩ := id C
  refine lv_imul (x := Int32.ofInt x) (y := Int32.ofInt z) hx hb (hd r hr) ?_
  rw [← Int32.ofInt_mul]
  exact K
theorem A_ineg {d mc ms y : Nat} {Φ : Option Vl → Ly → Mm → Prop} {kc ks pc : Nat} {L : Lc} {st : List Vl} {S : Ly} {M : Mm} {x : Int} (hd : DC y pc .ineg 1) (k : AJ d mc ms y Φ kc ks (pc + 1) L (.inl (-x) :: st) S M) : AJ d mc ms y Φ kc ks pc L (.inl x :: st) S M := by
  intro r hr l dC dI cA b0 b N xs p e s m args below meth c H locs ls C hW hS hz hL
  have K := k r hr l dC dI cA b0 b N xs p e s m args below meth c H locs ls C hW hS hz hL
  obtain ⟨hx, hb, hrt, hml, hown, hts, hlk, hnm, hSF⟩ := id C
  have K2 : W _ _ _ _ _ _ _ _ _ _ _ _ _ _ _ (F0 m (pc + 1) ls (.int (Int32.ofInt (-x)) :: st.map (val b0 b))) := K
  refine lv_ineg (x := Int32.ofInt x) hx hb (hd r hr) ?_
  have e0 : (0 : Int32) - Int32.ofInt x = Int32.ofInt (-x) := by rw [i32_zero, ← Int32.ofInt_sub]; congr 1; omega
  first | (rw [e0]; exact K2) | (rw [← Int32.ofInt_neg]; exact K2)
theorem A_iand {d mc ms y : Nat} {Φ : Option Vl → Ly → Mm → Prop} {kc ks pc : Nat} {L : Lc} {st : List Vl} {S : Ly} {M : Mm} {x z : Int} (hd : DC y pc .iand 1) (k : AJ d mc ms y Φ kc ks (pc + 1) L (.inl (andI x z) :: st) S M) : AJ d mc ms y Φ kc ks pc L (.inl z :: .inl x :: st) S M := by
  intro r hr l dC dI cA b0 b N xs p e s m args below meth c H locs ls C hW hS hz hL
  have K := k r hr l dC dI cA b0 b N xs p e s m args below meth c H locs ls C hW hS hz hL
  obtain ⟨hx, hb, hrt, hml, hown, hts, hlk, hnm, hSF⟩ := id C
  refine lv_iand (x := Int32.ofInt x) (y := Int32.ofInt z) hx hb (hd r hr) ?_
  have K2 : W _ _ _ _ _ _ _ _ _ _ _ _ _ _ _ (F0 m (pc + 1) ls (.int (Int32.ofInt (andI x z)) :: st.map (val b0 b))) := K
  unfold andI at K2
  rw [Int32.ofInt_toInt] at K2
  exact K2
theorem A_ishl {d mc ms y : Nat} {Φ : Option Vl → Ly → Mm → Prop} {kc ks pc : Nat} {L : Lc} {st : List Vl} {S : Ly} {M : Mm} {x z : Int} (hd : DC y pc .ishl 1) (k : AJ d mc ms y Φ kc ks (pc + 1) L (.inl (shlI x z) :: st) S M) : AJ d mc ms y Φ kc ks pc L (.inl z :: .inl x :: st) S M := by
  intro r hr l dC dI cA b0 b N xs p e s m args below meth c H locs ls C hW hS hz hL
  have K := k r hr l dC dI cA b0 b N xs p e s m args below meth c H locs ls C hW hS hz hL
  obtain ⟨hx, hb, hrt, hml, hown, hts, hlk, hnm, hSF⟩ := id C
  refine lv_ishl (x := Int32.ofInt x) (y := Int32.ofInt z) hx hb (hd r hr) ?_
  have K2 : W _ _ _ _ _ _ _ _ _ _ _ _ _ _ _ (F0 m (pc + 1) ls (.int (Int32.ofInt (shlI x z)) :: st.map (val b0 b))) := K
  unfold shlI at K2
  rw [Int32.ofInt_toInt] at K2
  exact K2
theorem A_ishr {d mc ms y : Nat} {Φ : Option Vl → Ly → Mm → Prop} {kc ks pc : Nat} {L : Lc} {st : List Vl} {S : Ly} {M : Mm} {x z : Int} (hd : DC y pc .ishr 1) (k : AJ d mc ms y Φ kc ks (pc + 1) L (.inl (shrI x z) :: st) S M) : AJ d mc ms y Φ kc ks pc L (.inl z :: .inl x :: st) S M := by
  intro r hr l dC dI cA b0 b N xs p e s m args below meth c H locs ls C hW hS hz hL
  have K := k r hr l dC dI cA b0 b N xs p e s m args below meth c H locs ls C hW hS hz hL
  obtain ⟨hx, hb, hrt, hml, hown, hts, hlk, hnm, hSF⟩ := id C
  refine lv_ishr (x := Int32.ofInt x) (y := Int32.ofInt z) hx hb (hd r hr) ?_
  have K2 : W _ _ _ _ _ _ _ _ _ _ _ _ _ _ _ (F0 m (pc + 1) ls (.int (Int32.ofInt (shrI x z)) :: st.map (val b0 b))) := K
  unfold shrI at K2
  rw [Int32.ofInt_toInt] at K2
  exact K2
theorem A_idiv {d mc ms y : Nat} {Φ : Option Vl → Ly → Mm → Prop} {kc ks pc : Nat} {L : Lc} {st : List Vl} {S : Ly} {M : Mm} {x z : Int} (hd : DC y pc .idiv 1) (hz1 : R32 z) (hz2 : z ≠ 0) (k : AJ d mc ms y Φ kc ks (pc + 1) L (.inl (divI x z) :: st) S M) : AJ d mc ms y Φ kc ks pc L (.inl z :: .inl x :: st) S M := by
  intro r hr l dC dI cA b0 b N xs p e s m args below meth c H locs ls C hW hS hz hL
  have K := k r hr l dC dI cA b0 b N xs p e s m args below meth c H locs ls C hW hS hz hL
  obtain ⟨hx, hb, hrt, hml, hown, hts, hlk, hnm, hSF⟩ := id C
  refine lv_idiv (x := Int32.ofInt x) (y := Int32.ofInt z) hx hb (hd r hr) (by rw [i32_zero, i32_eq hz1 (by omega)]; exact hz2) ?_
  have K2 : W _ _ _ _ _ _ _ _ _ _ _ _ _ _ _ (F0 m (pc + 1) ls (.int (Int32.ofInt (divI x z)) :: st.map (val b0 b))) := K
  unfold divI at K2
  rw [Int32.ofInt_toInt] at K2
  exact K2
theorem A_irem {d mc ms y : Nat} {Φ : Option Vl → Ly → Mm → Prop} {kc ks pc : Nat} {L : Lc} {st : List Vl} {S : Ly} {M : Mm} {x z : Int} (hd : DC y pc .irem 1) (hz1 : R32 z) (hz2 : z ≠ 0) (k : AJ d mc ms y Φ kc ks (pc + 1) L (.inl (remI x z) :: st) S M) : AJ d mc ms y Φ kc ks pc L (.inl z :: .inl x :: st) S M := by
  intro r hr l dC dI cA b0 b N xs p e s m args below meth c H locs ls C hW hS hz hL
  have K := k r hr l dC dI cA b0 b N xs p e s m args below meth c H locs ls C hW hS hz hL
  obtain ⟨hx, hb, hrt, hml, hown, hts, hlk, hnm, hSF⟩ := id C
  refine lv_irem (x := Int32.ofInt x) (y := Int32.ofInt z) hx hb (hd r hr) (by rw [i32_zero, i32_eq hz1 (by omega)]; exact hz2) ?_
  have K2 : W _ _ _ _ _ _ _ _ _ _ _ _ _ _ _ (F0 m (pc + 1) ls (.int (Int32.ofInt (remI x z)) :: st.map (val b0 b))) := K
  unfold remI at K2
  rw [Int32.ofInt_toInt] at K2
  exact K2
theorem A_dup {d mc ms y : Nat} {Φ : Option Vl → Ly → Mm → Prop} {kc ks pc : Nat} {L : Lc} {st : List Vl} {S : Ly} {M : Mm} {v : Vl} (hd : DC y pc .dup 1) (k : AJ d mc ms y Φ kc ks (pc + 1) L (v :: v :: st) S M) : AJ d mc ms y Φ kc ks pc L (v :: st) S M := by
  intro r hr l dC dI cA b0 b N xs p e s m args below meth c H locs ls C hW hS hz hL
  have K := k r hr l dC dI cA b0 b N xs p e s m args below meth c H locs ls C hW hS hz hL
  obtain ⟨hx, hb, hrt, hml, hown, hts, hlk, hnm, hSF⟩ := id C
  exact lv_dup (va := val b0 b v) hx hb (hd r hr) (by cases v <;> rfl) K
theorem A_goto {d mc ms y : Nat} {Φ : Option Vl → Ly → Mm → Prop} {kc ks pc : Nat} {L : Lc} {st : List Vl} {S : Ly} {M : Mm} {off : Int} {t : Nat} (hd : DC y pc (.goto off) 3) (ht : (pc : Int) + off = (t : Int)) (k : AJ d mc ms y Φ kc ks t L st S M) : AJ d mc ms y Φ kc ks pc L st S M := by
  intro r hr l dC dI cA b0 b N xs p e s m args below meth c H locs ls C hW hS hz hL
  have K := k r hr l dC dI cA b0 b N xs p e s m args below meth c H locs ls C hW hS hz hL
  obtain ⟨hx, hb, hrt, hml, hown, hts, hlk, hnm, hSF⟩ := id C
  exact lv_goto hx hb (hd r hr) ht K
theorem A_ifCond {d mc ms y : Nat} {Φ : Option Vl → Ly → Mm → Prop} {kc ks pc : Nat} {L : Lc} {st : List Vl} {S : Ly} {M : Mm} {c : Jvm.ClassFile.Cond} {off x : Int} {t : Nat} (hd : DC y pc (.ifCond c off) 3) (ht : (pc : Int) + off = (t : Int)) (hR : R32 x)
    (k1 : cmpP c x 0 → AJ d mc ms y Φ kc ks t L st S M) (k2 : ¬ cmpP c x 0 → AJ d mc ms y Φ kc ks (pc + 3) L st S M) : AJ d mc ms y Φ kc ks pc L (.inl x :: st) S M := by
  intro r hr l dC dI cA b0 b N xs p e s m args below meth c1 H locs ls C hW hS hz hL
  obtain ⟨hx, hb, hrt, hml, hown, hts, hlk, hnm, hSF⟩ := id C
  have K1 := fun hh => k1 hh r hr l dC dI cA b0 b N xs p e s m args below meth c1 H locs ls C hW hS hz hL
  have K2 := fun hh => k2 hh r hr l dC dI cA b0 b N xs p e s m args below meth c1 H locs ls C hW hS hz hL
  have hdg := hd r hr
  have h0 : R32 0 := by omega
  cases c with
  | eq => exact lv_if_eq hx hb hdg ht (fun q => K1 ((i32_eq hR h0).mp (q.trans i32_zero))) (fun q => K2 (fun w => q (((i32_eq hR h0).mpr w).trans i32_zero.symm)))
  | ne => exact lv_if_ne hx hb hdg ht (fun q => K1 (fun w => q (((i32_eq hR h0).mpr w).trans i32_zero.symm))) (fun q => K2 (fun w => w ((i32_eq hR h0).mp (q.trans i32_zero))))
  | lt => exact lv_if_lt hx hb hdg ht (fun q => K1 ((i32_lt hR h0).mp (i32_zero ▸ q))) (fun q => K2 (fun w => q (i32_zero ▸ (i32_lt hR h0).mpr w)))
  | ge => exact lv_if_ge hx hb hdg ht (fun q => K1 ((i32_le h0 hR).mp (i32_zero ▸ q))) (fun q => K2 (fun w => q (i32_zero ▸ (i32_le h0 hR).mpr w)))
  | gt => exact lv_if_gt hx hb hdg ht (fun q => K1 ((i32_lt h0 hR).mp (i32_zero ▸ q))) (fun q => K2 (fun w => q (i32_zero ▸ (i32_lt h0 hR).mpr w)))
  | le => exact lv_if_le hx hb hdg ht (fun q => K1 ((i32_le hR h0).mp (i32_zero ▸ q))) (fun q => K2 (fun w => q (i32_zero ▸ (i32_le hR h0).mpr w)))
theorem A_if_icmp {d mc ms y : Nat} {Φ : Option Vl → Ly → Mm → Prop} {kc ks pc : Nat} {L : Lc} {st : List Vl} {S : Ly} {M : Mm} {c : Jvm.ClassFile.Cond} {off x z : Int} {t : Nat} (hd : DC y pc (.if_icmp c off) 3) (ht : (pc : Int) + off = (t : Int)) (hR : R32 x) (h0 : R32 z)
    (k1 : cmpP c x z → AJ d mc ms y Φ kc ks t L st S M) (k2 : ¬ cmpP c x z → AJ d mc ms y Φ kc ks (pc + 3) L st S M) : AJ d mc ms y Φ kc ks pc L (.inl z :: .inl x :: st) S M := by
  intro r hr l dC dI cA b0 b N xs p e s m args below meth c1 H locs ls C hW hS hz hL
  obtain ⟨hx, hb, hrt, hml, hown, hts, hlk, hnm, hSF⟩ := id C
  have K1 := fun hh => k1 hh r hr l dC dI cA b0 b N xs p e s m args below meth c1 H locs ls C hW hS hz hL
  have K2 := fun hh => k2 hh r hr l dC dI cA b0 b N xs p e s m args below meth c1 H locs ls C hW hS hz hL
  have hdg := hd r hr
  cases c with
  | eq => exact lv_icmp_eq hx hb hdg ht (fun q => K1 ((i32_eq hR h0).mp q)) (fun q => K2 (fun w => q ((i32_eq hR h0).mpr w)))
  | ne => exact lv_icmp_ne hx hb hdg ht (fun q => K1 (fun w => q ((i32_eq hR h0).mpr w))) (fun q => K2 (fun w => w ((i32_eq hR h0).mp q)))
  | lt => exact lv_icmp_lt hx hb hdg ht (fun q => K1 ((i32_lt hR h0).mp q)) (fun q => K2 (fun w => q ((i32_lt hR h0).mpr w)))
  | ge => exact lv_icmp_ge hx hb hdg ht (fun q => K1 ((i32_le h0 hR).mp q)) (fun q => K2 (fun w => q ((i32_le h0 hR).mpr w)))
  | gt => exact lv_icmp_gt hx hb hdg ht (fun q => K1 ((i32_lt h0 hR).mp q)) (fun q => K2 (fun w => q ((i32_lt h0 hR).mpr w)))
  | le => exact lv_icmp_le hx hb hdg ht (fun q => K1 ((i32_le hR h0).mp q)) (fun q => K2 (fun w => q ((i32_le hR h0).mpr w)))
theorem A_tableswitch {d mc ms y : Nat} {Φ : Option Vl → Ly → Mm → Prop} {kc ks pc : Nat} {L : Lc} {st : List Vl} {S : Ly} {M : Mm} {dd lo hi x : Int} {offs : Array Int} {len dt : Nat} {tl : List (Int × Nat)} (hd : DC y pc (.tableswitch dd lo hi offs) len) (hR : R32 x) (hdt : (pc : Int) + dd = (dt : Int)) (hlen : hi + 1 = lo + offs.size)
    (htl : ∀ j : Nat, j < offs.size → ∃ (o1 : Int) (t : Nat), offs[j]? = some o1 ∧ (pc : Int) + o1 = (t : Int) ∧ (lo + j, t) ∈ tl)
    (k1 : (x < lo ∨ hi < x) → AJ d mc ms y Φ kc ks dt L st S M) (k2 : ∀ (v : Int) (t : Nat), (v, t) ∈ tl → x = v → AJ d mc ms y Φ kc ks t L st S M) : AJ d mc ms y Φ kc ks pc L (.inl x :: st) S M := by
  intro r hr l dC dI cA b0 b N xs p e s m args below meth c H locs ls C hW hS hz hL
  obtain ⟨hx, hb, hrt, hml, hown, hts, hlk, hnm, hSF⟩ := id C
  have K1 := fun hh => k1 hh r hr l dC dI cA b0 b N xs p e s m args below meth c H locs ls C hW hS hz hL
  have hdg := hd r hr
  by_cases hlo : x < lo
  · exact lv_tableOut hx hb hdg (by rw [i32_toInt hR]; exact Or.inl hlo) hdt (K1 (Or.inl hlo))
  · by_cases hhi : hi < x
    · exact lv_tableOut hx hb hdg (by rw [i32_toInt hR]; exact Or.inr hhi) hdt (K1 (Or.inr hhi))
    · obtain ⟨o1, t, e1, e2, e3⟩ := htl (x - lo).toNat (by omega)
      have e4 : lo + ((x - lo).toNat : Int) = x := by omega
      exact lv_tableIn hx hb hdg (by rw [i32_toInt hR]; exact hlo) (by rw [i32_toInt hR]; exact hhi) (by rw [i32_toInt hR]; exact e1) e2 (k2 _ t e3 e4.symm r hr l dC dI cA b0 b N xs p e s m args below meth c H locs ls C hW hS hz hL)
theorem fld_ok {o idx ci k tk : Nat} {kI : Int} {fin : Bool} (ho : o < nCl) (h : (idx, ci, k, kI, fin, tk) ∈ flds o) : ∃ (C : String) (Tt : u_T) (N : Nat) (ty : FieldType), vwCl[ci]? = some (C, Tt, N) ∧ k < N ∧ Cond.fieldLink (cnm o) idx (Tt k).1 (Tt k).2.1 (Tt k).2.2.1 ∈ MW ∧ (Tt k).2.2.2 = fin ∧ parseFieldDescriptor (Tt k).2.2.1 = some ty ∧ kdf ty = tk ∧ (Tt k).1 = C ∧ kI = (k : Int) := by
  have h1 := okF_all o _ h
  have h2 := MW_F ho h
  unfold okF at h1
  unfold wF at h2
  dsimp only at h1 h2
  cases hv : vwCl[ci]? with
  | none => rw [hv] at h1; cases h1
  | some q =>
    obtain ⟨C, Tt, N⟩ := q
    rw [hv] at h1 h2
    simp only [Bool.and_eq_true, decide_eq_true_eq, beq_iff_eq] at h1
    obtain ⟨⟨⟨⟨a1, a2⟩, a3⟩, a4⟩, a5⟩ := h1
    obtain ⟨ty, b1, b2⟩ := Option.map_eq_some_iff.mp a3
    exact ⟨C, Tt, N, ty, rfl, a1, h2 _ (List.mem_singleton.mpr rfl), a2, b1, b2, a4, a5⟩
theorem cls_in {ci : Nat} {q : vw_C} (h : vwCl[ci]? = some q) : ∀ w ∈ u_ws q.1 q.2.1 q.2.2, w ∈ MW := MW_U (List.mem_of_getElem? h)
theorem WD.cell {dC : Nat → ClassId} {dI : Nat → Nat → Nat} {cA : ClassId} {b0 b N : Nat} {xs : Nat → Int32} {S : Ly} {M : Mm} {H : Heap} {a : Nat} {sh : Sh} (h : WD dC dI cA b0 b N xs S M H) (hs : shp S a = some sh) (ha : a ≠ 0) :
    ∃ (T : Ly) (q : Nat), a = q + 1 ∧ S = .inl N :: T ∧ T[q]? = some sh ∧ va_P (dC, dI) vwCl (wl b0 b cA T M) H ∧ (wl b0 b cA T M)[q]? = some (b0 + q, ent b0 b cA M (q + 1) sh) := by
  obtain ⟨T, rfl, h3, h4, h5⟩ := h
  cases a with
  | zero => exact absurd rfl ha
  | succ q =>
    rw [shp_eq] at hs
    have hs : T[q]? = some sh := by simpa using hs
    exact ⟨T, q, rfl, rfl, hs, h5, by rw [wl_get, hs]; rfl⟩
theorem WD.obj {dC : Nat → ClassId} {dI : Nat → Nat → Nat} {cA : ClassId} {b0 b N : Nat} {xs : Nat → Int32} {S : Ly} {M : Mm} {H : Heap} {a : Nat} {q : Nat × List Fk} (h : WD dC dI cA b0 b N xs S M H) (hs : shp S a = some (.inr q)) : a ≠ 0 := by
  obtain ⟨T, rfl, -⟩ := h
  intro ha
  subst ha
  cases hs
theorem A_getI {d mc ms y : Nat} {Φ : Option Vl → Ly → Mm → Prop} {kc ks pc : Nat} {L : Lc} {st : List Vl} {S : Ly} {M : Mm} {o idx a ci kf tk : Nat} {kI : Int} {fin : Bool} {fs : List Fk} (hd : DC y pc (.getfield idx) 3) (ho : OC y o) (hf : lk1 idx (flds o) = some (ci, kf, kI, fin, tk)) (hs : shp S a = some (.inr (ci, fs))) (hk : shf fs kf = some none) (k : AJ d mc ms y Φ kc ks (pc + 3) L (.inl (M a kI) :: st) S M) : AJ d mc ms y Φ kc ks pc L (.inr a :: st) S M := by
  intro r hr l dC dI cA b0 b N xs p e s m args below meth c H locs ls C hW hS hz hL
  obtain ⟨hx, hb, hrt, hml, hown, hts, hlk, hnm, hSF⟩ := id C
  obtain ⟨T, q, rfl, rfl, hT, hP, he⟩ := hW.cell hs (hW.obj hs)
  obtain ⟨C0, Tt, N0, ty, hc, hkN, hl, hfin, hpd, hkd, hC, hkI⟩ := fld_ok ho.1 (lk1_mem hf)
  subst hkI
  have K := k r hr l dC dI cA b0 b N xs p e s m args below meth c H locs ls C hW hS hz hL
  exact va_get (D := (dC, dI)) (ci := ci) (C := C0) (T := Tt) (N := N0) hx hb hts (cls_in hc) (own_of ho hr hown) hSF.1 hP q he hc kf hkN (hts _ hl) (fun _ h9 => h9) (v := .int (Int32.ofInt (M (q + 1) kf))) (by rw [List.getElem?_mapIdx]; rw [shf_eq] at hk; rw [hk]; rfl) (hd r hr) K
theorem A_getR {d mc ms y : Nat} {Φ : Option Vl → Ly → Mm → Prop} {kc ks pc : Nat} {L : Lc} {st : List Vl} {S : Ly} {M : Mm} {o idx a ci kf tk rr : Nat} {kI : Int} {fin : Bool} {fs : List Fk} (hd : DC y pc (.getfield idx) 3) (ho : OC y o) (hf : lk1 idx (flds o) = some (ci, kf, kI, fin, tk)) (hs : shp S a = some (.inr (ci, fs))) (hk : shf fs kf = some (some (some rr))) (k : AJ d mc ms y Φ kc ks (pc + 3) L (.inr rr :: st) S M) : AJ d mc ms y Φ kc ks pc L (.inr a :: st) S M := by
  intro r hr l dC dI cA b0 b N xs p e s m args below meth c H locs ls C hW hS hz hL
  obtain ⟨hx, hb, hrt, hml, hown, hts, hlk, hnm, hSF⟩ := id C
  obtain ⟨T, q, rfl, rfl, hT, hP, he⟩ := hW.cell hs (hW.obj hs)
  obtain ⟨C0, Tt, N0, ty, hc, hkN, hl, hfin, hpd, hkd, hC, hkI⟩ := fld_ok ho.1 (lk1_mem hf)
  subst hkI
  have K := k r hr l dC dI cA b0 b N xs p e s m args below meth c H locs ls C hW hS hz hL
  exact va_get (D := (dC, dI)) (ci := ci) (C := C0) (T := Tt) (N := N0) hx hb hts (cls_in hc) (own_of ho hr hown) hSF.1 hP q he hc kf hkN (hts _ hl) (fun _ h9 => h9) (v := .ref (adr b0 b rr)) (by rw [List.getElem?_mapIdx]; rw [shf_eq] at hk; rw [hk]; rfl) (hd r hr) K
theorem ent_other {b0 b : Nat} {cA : ClassId} {M : Mm} {a k : Nat} {i x : Int} (h : k ≠ a) (sh : Sh) : ent b0 b cA (mset M a i x) k sh = ent b0 b cA M k sh := by
  cases sh with
  | inl n => simp [ent, mset, h]
  | inr q =>
    have : (fun (j : Nat) (f : Fk) => fv b0 b (mset M a i x) k j f) = fun j f => fv b0 b M k j f := by
      funext j f
      cases f <;> simp [fv, mset, h]
    simp [ent, this]
theorem wl_put {b0 b : Nat} {cA : ClassId} {T : Ly} {M : Mm} {q : Nat} {i x : Int} {sh : Sh} {E : va_E} (hT : T[q]? = some sh) (hE : ent b0 b cA (mset M (q + 1) i x) (q + 1) sh = E) : (wl b0 b cA T M).set q (b0 + q, E) = wl b0 b cA T (mset M (q + 1) i x) := by
  apply List.ext_getElem?
  intro k
  rw [wl_get, List.getElem?_set]
  by_cases hk : q = k
  · subst hk
    have hlt : q < T.length := (List.getElem?_eq_some_iff.mp hT).1
    rw [if_pos rfl, if_pos (by simpa [wl] using hlt), hT]
    simp [hE]
  · rw [if_neg hk, wl_get]
    cases T[k]? with
    | none => rfl
    | some s2 => simp only [Option.map_some]; rw [ent_other (by omega)]
theorem MOk.set {M : Mm} (h : MOk M) {a : Nat} {i x : Int} (hx : R32 x) : MOk (mset M a i x) := by
  intro k j
  unfold mset
  split
  · exact hx
  · exact h k j
theorem WD.put {dC : Nat → ClassId} {dI : Nat → Nat → Nat} {cA : ClassId} {b0 b N : Nat} {xs : Nat → Int32} {T : Ly} {M : Mm} {H H1 : Heap} {q : Nat} {i x : Int} {sh : Sh} {E : va_E} (h : WD dC dI cA b0 b N xs (.inl N :: T) M H) (hT : T[q]? = some sh) (hE : ent b0 b cA (mset M (q + 1) i x) (q + 1) sh = E) (hx : R32 x)
    (hP : va_P (dC, dI) vwCl ((wl b0 b cA T M).set q (b0 + q, E)) H1) : WD dC dI cA b0 b N xs (.inl N :: T) (mset M (q + 1) i x) H1 := by
  obtain ⟨T', e1, h3, h4, h5⟩ := h
  cases e1
  refine ⟨T, rfl, h3.set hx, fun j hj => ?_, by rw [← wl_put hT hE]; exact hP⟩
  rw [← h4 j hj]; simp [mset]
theorem A_putI {d mc ms y : Nat} {Φ : Option Vl → Ly → Mm → Prop} {kc ks pc : Nat} {L : Lc} {st : List Vl} {S : Ly} {M : Mm} {o idx a ci kf tk : Nat} {kI : Int} {fin : Bool} {fs : List Fk} {x : Int} (hd : DC y pc (.putfield idx) 3) (ho : OC y o) (hf : lk1 idx (flds o) = some (ci, kf, kI, fin, tk)) (hs : shp S a = some (.inr (ci, fs))) (hk : shf fs kf = some none) (hxr : R32 x) (htk : tk < 2) (hb1 : tk = 1 → x = 0 ∨ x = 1) (hfi : fin = true → o = ci ∧ ∀ r : MRec, mtb[y]? = some r → r.1.name = "<init>") (k : AJ d mc ms y Φ kc ks (pc + 3) L st S (mset M a kI x)) : AJ d mc ms y Φ kc ks pc L (.inl x :: .inr a :: st) S M := by
  intro r hr l dC dI cA b0 b N xs p e s m args below meth c H locs ls C hW hS hz hL
  obtain ⟨hx, hb, hrt, hml, hown, hts, hlk, hnm, hSF⟩ := id C
  obtain ⟨T, q, rfl, rfl, hT, hP, he⟩ := hW.cell hs (hW.obj hs)
  obtain ⟨C0, Tt, N0, ty, hc, hkN, hl, hfin, hpd, hkd, hC, hkI⟩ := fld_ok ho.1 (lk1_mem hf)
  subst hkI
  obtain ⟨ty0, hty, hnmz⟩ := cls_ok ci _ hc
  have hk2 : fs[kf]? = some none := by rw [← shf_eq]; exact hk
  have hlt : kf < fs.length := (List.getElem?_eq_some_iff.mp hk2).1
  have hn : narrow ty (.int (Int32.ofInt x)) = .int (Int32.ofInt x) ∧ fits ty (.int (Int32.ofInt x)) = true := by
    cases ty with
    | int => exact ⟨rfl, rfl⟩
    | boolean =>
      rcases hb1 (by rw [← hkd]; rfl) with rfl | rfl
      · exact ⟨by decide +kernel, by decide +kernel⟩
      · exact ⟨by decide +kernel, by decide +kernel⟩
    | _ => exact absurd hkd (by intro h; simp [kdf] at h; omega)
  have hE : ent b0 b cA (mset M (q + 1) kf x) (q + 1) (.inr (ci, fs)) = .inr (ci, (fs.mapIdx (fun j f => fv b0 b M (q + 1) j f)).set kf (.int (Int32.ofInt x))) := by
    show Sum.inr (ci, _) = Sum.inr (ci, _)
    congr 2
    apply List.ext_getElem?
    intro j
    rw [List.getElem?_mapIdx, List.getElem?_set, List.getElem?_mapIdx]
    by_cases hj : kf = j
    · subst hj
      rw [if_pos rfl, if_pos (by simpa using hlt), hk2]
      simp [fv, mset]
    · rw [if_neg hj]
      cases fs[j]? with
      | none => rfl
      | some f => cases f with
        | none =>
          have hne : ¬ ((j : Int) = (kf : Int)) := by omega
          simp [fv, mset, hne]
        | some f => cases f <;> rfl
  have go : ∀ (H1 : Heap) (locs1 : List Loc), va_P (dC, dI) vwCl ((wl b0 b cA T M).set q (b0 + q, .inr (ci, (fs.mapIdx (fun j f => fv b0 b M (q + 1) j f)).set kf (.int (Int32.ofInt x))))) H1 → va_D (fun q => b0 ≤ q) ((wl b0 b cA T M).set q (b0 + q, .inr (ci, (fs.mapIdx (fun j f => fv b0 b M (q + 1) j f)).set kf (.int (Int32.ofInt x))))) → va_S (fun q => b0 ≤ q) s.heap H1 locs1 → W p l e (rmm d mc ms) s m args below meth c H1 locs1 kc ks (MQ below (QQ mc dC dI cA b0 b N xs Φ) args s mc ms (fun q => b0 ≤ q)) (F0 m (pc + 3) ls (st.map (val b0 b))) :=
    fun H1 locs1 hP1 _ hS1 => k r hr l dC dI cA b0 b N xs p e s m args below meth c H1 locs1 ls C (hW.put hT hE hxr hP1) hS1 hz hL
  cases fin with
  | false => exact va_put (D := (dC, dI)) (ci := ci) (C := C0) (T := Tt) (N := N0) hx hb hts (cls_in hc) ty0 hty hnmz (own_of ho hr hown) hSF.1 hP (wl_D b0 b cA T M) hS q he hc kf hkN (hts _ hl) (fun _ h9 => h9) hfin (ty := ty) (v := .int (Int32.ofInt x)) hpd hn.1 hn.2 (by simpa using hlt) (hd r hr) go
  | true =>
    obtain ⟨hoc, hini⟩ := hfi rfl
    subst hoc
    exact va_putF (D := (dC, dI)) (ci := o) (C := C0) (T := Tt) (N := N0) hx hb hts (cls_in hc) ty0 hty hnmz (own_of ho hr hown) hSF.1 hP (wl_D b0 b cA T M) hS q he hc kf hkN (hts _ hl) (fun _ h9 => h9) hfin (hnm (hini r hr)) (by rw [hC]; exact (cnm_ok o _ hc).symm) (ty := ty) (v := .int (Int32.ofInt x)) hpd hn.1 hn.2 (by simpa using hlt) (hd r hr) go
theorem A_iald {d mc ms y : Nat} {Φ : Option Vl → Ly → Mm → Prop} {kc ks pc : Nat} {L : Lc} {st : List Vl} {S : Ly} {M : Mm} {a n : Nat} {i : Int} (hd : DC y pc .iaload 1) (hs : shp S a = some (.inl n)) (h0 : 0 ≤ i) (h1 : i < (n : Int)) (hR : R32 i) (k : AJ d mc ms y Φ kc ks (pc + 1) L (.inl (M a i) :: st) S M) : AJ d mc ms y Φ kc ks pc L (.inl i :: .inr a :: st) S M := by
  intro r hr l dC dI cA b0 b N xs p e s m args below meth c H locs ls C hW hS hz hL
  by_cases ha : a = 0
  · subst ha
    obtain ⟨hx, hb, hrt, hml, hown, hts, hlk, hnm, hSF⟩ := id C
    have K := k r hr l dC dI cA b0 b N xs p e s m args below meth c H locs ls C hW hS hz hL
    obtain ⟨T, rfl, hM, hX, hP⟩ := id hW
    have hn : N = n := by simpa [shp] using hs
    subst hn
    obtain ⟨-, -, hX0, hb0, hbs, -⟩ := hSF
    refine va_sld hx hb hX0 (Nat.lt_of_lt_of_le hb0 hbs) (Nat.not_le.mpr hb0) hS (i := Int32.ofInt i) (i32_in h0 h1 hR) (hd r hr) ?_
    have e1 : xs (Int32.ofInt i).toNatClampNeg = Int32.ofInt (M 0 i) := by
      rw [i32_nat hR]
      have h2 := hX i.toNat (by omega)
      rw [show ((i.toNat : Nat) : Int) = i by omega] at h2
      rw [h2, Int32.ofInt_toInt]
    rw [e1]
    exact K
  · obtain ⟨hx, hb, hrt, hml, hown, hts, hlk, hnm, hSF⟩ := id C
    obtain ⟨T, q, rfl, rfl, hT, hP, he⟩ := hW.cell hs ha
    have K := k r hr l dC dI cA b0 b N xs p e s m args below meth c H locs ls C hW hS hz hL
    refine va_iald hx hb hSF.1 hP q 0 he rfl (i := Int32.ofInt i) (i32_in h0 h1 hR) (hd r hr) ?_
    have e1 : Int32.ofInt (M (q + 1) (((Int32.ofInt i).toNatClampNeg : Nat) : Int)) = Int32.ofInt (M (q + 1) i) := by
      rw [i32_nat hR, show ((i.toNat : Nat) : Int) = i by omega]
    rw [e1]
    exact K
theorem A_iast {d mc ms y : Nat} {Φ : Option Vl → Ly → Mm → Prop} {kc ks pc : Nat} {L : Lc} {st : List Vl} {S : Ly} {M : Mm} {a n : Nat} {i x : Int} (hd : DC y pc .iastore 1) (hs : shp S a = some (.inl n)) (ha : a ≠ 0) (h0 : 0 ≤ i) (h1 : i < (n : Int)) (hR : R32 i) (hxr : R32 x) (k : AJ d mc ms y Φ kc ks (pc + 1) L st S (mset M a i x)) : AJ d mc ms y Φ kc ks pc L (.inl x :: .inl i :: .inr a :: st) S M := by
  intro r hr l dC dI cA b0 b N xs p e s m args below meth c H locs ls C hW hS hz hL
  obtain ⟨hx, hb, hrt, hml, hown, hts, hlk, hnm, hSF⟩ := id C
  obtain ⟨T, q, rfl, rfl, hT, hP, he⟩ := hW.cell hs ha
  have hE : ent b0 b cA (mset M (q + 1) i x) (q + 1) (.inl n) = .inl (cA, n, .inl (upd (fun j : Nat => Int32.ofInt (M (q + 1) j)) (Int32.ofInt i).toNatClampNeg (Int32.ofInt x))) := by
    show Sum.inl (cA, n, Sum.inl _) = Sum.inl (cA, n, Sum.inl _)
    apply congrArg (fun g => Sum.inl (cA, n, Sum.inl g))
    funext j
    simp only [mset, upd, i32_nat hR]
    by_cases hj : j = i.toNat
    · rw [if_pos ⟨trivial, by omega⟩, if_pos hj]
    · rw [if_neg (by rintro ⟨-, h⟩; omega), if_neg hj]
  exact va_iast hx hb hSF.1 hP (wl_D b0 b cA T M) hS q 0 he rfl (i := Int32.ofInt i) (x := Int32.ofInt x) (i32_in h0 h1 hR) (hd r hr) (fun H1 locs1 hP1 _ hS1 => k r hr l dC dI cA b0 b N xs p e s m args below meth c H1 locs1 ls C (hW.put hT hE hxr hP1) hS1 hz hL)
theorem A_alen {d mc ms y : Nat} {Φ : Option Vl → Ly → Mm → Prop} {kc ks pc : Nat} {L : Lc} {st : List Vl} {S : Ly} {M : Mm} {a n : Nat} (hd : DC y pc .arraylength 1) (hs : shp S a = some (.inl n)) (k : AJ d mc ms y Φ kc ks (pc + 1) L (.inl (n : Int) :: st) S M) : AJ d mc ms y Φ kc ks pc L (.inr a :: st) S M := by
  intro r hr l dC dI cA b0 b N xs p e s m args below meth c H locs ls C hW hS hz hL
  by_cases ha : a = 0
  · subst ha
    obtain ⟨hx, hb, hrt, hml, hown, hts, hlk, hnm, hSF⟩ := id C
    have K := k r hr l dC dI cA b0 b N xs p e s m args below meth c H locs ls C hW hS hz hL
    obtain ⟨T, rfl, hM, hX, hP⟩ := id hW
    have hn : N = n := by simpa [shp] using hs
    subst hn
    obtain ⟨-, -, hX0, hb0, hbs, -⟩ := hSF
    refine va_slen hx hb hX0 (Nat.lt_of_lt_of_le hb0 hbs) (Nat.not_le.mpr hb0) hS (hd r hr) ?_
    rw [← Int32.ofInt_eq_ofNat]
    exact K
  · obtain ⟨hx, hb, hrt, hml, hown, hts, hlk, hnm, hSF⟩ := id C
    obtain ⟨T, q, rfl, rfl, hT, hP, he⟩ := hW.cell hs ha
    have K := k r hr l dC dI cA b0 b N xs p e s m args below meth c H locs ls C hW hS hz hL
    exact va_alen hx hb hSF.1 hP q 0 he rfl (v := Int32.ofInt n) Int32.ofInt_eq_ofNat.symm (hd r hr) K
theorem WD.size {dC : Nat → ClassId} {dI : Nat → Nat → Nat} {cA : ClassId} {b0 b N : Nat} {xs : Nat → Int32} {S : Ly} {M : Mm} {H : Heap} (h : WD dC dI cA b0 b N xs S M H) (hb : b0 ≤ H.size) : b0 + S.length ≤ H.size + 1 := by
  obtain ⟨T, rfl, h3, h4, h5⟩ := h
  rcases Nat.eq_zero_or_pos T.length with h0 | h0
  · simp [h0]; exact hb
  · have hlt : T.length - 1 < T.length := by omega
    have h6 := h5 (T.length - 1) (b0 + (T.length - 1), ent b0 b cA M (T.length - 1 + 1) T[T.length - 1]) (by rw [wl_get, List.getElem?_eq_getElem hlt]; rfl)
    have h7 := h6.lt
    simp only [List.length_cons] at *
    omega
theorem stand_size {p : Program} {l : Launch} {e : Env} {R : Room} {s : State} {m : MethodId} {args : Array Value} {below : List Frame} {meth : Method} {c : Code} {T : State} {locs : List Loc} {kc ks : Nat} (X : Stand p l e R s m args below meth c T locs kc ks) : T.heap.size ≤ s.heap.size + kc := X.same.2.2.1
theorem A_iret {d mc ms y : Nat} {Φ : Option Vl → Ly → Mm → Prop} {kc ks pc : Nat} {L : Lc} {st : List Vl} {S : Ly} {M : Mm} {x : Int} (hd : DC y pc .ireturn 1) (ht : ∀ r : MRec, mtb[y]? = some r → r.2.2.2.1 = some .int) (hk1 : kc = mc) (hk2 : ks ≤ ms) (k : Φ (some (.inl x)) S M) : AJ d mc ms y Φ kc ks pc L [.inl x] S M := by
  intro r hr l dC dI cA b0 b N xs p e s m args below meth c H locs ls C hW hS hz hL
  obtain ⟨hx, hb, hrt, hml, hown, hts, hlk, hnm, hSF⟩ := id C
  subst hk1
  refine W.widen (Nat.le_refl _) hk2 ?_
  exact W.iret (v := Int32.ofInt x) hx hb (hrt.trans (ht r hr)) (fun t ht hW2 => ⟨⟨some (.inl x), S, M, rfl, k, by rw [ht]; exact hW, hz⟩, hS.F ht⟩) hS.2.2 (hd r hr)
theorem A_zret {d mc ms y : Nat} {Φ : Option Vl → Ly → Mm → Prop} {kc ks pc : Nat} {L : Lc} {st : List Vl} {S : Ly} {M : Mm} {x : Int} (hd : DC y pc .ireturn 1) (ht : ∀ r : MRec, mtb[y]? = some r → r.2.2.2.1 = some .boolean) (hx01 : x = 0 ∨ x = 1) (hk1 : kc = mc) (hk2 : ks ≤ ms) (k : Φ (some (.inl x)) S M) : AJ d mc ms y Φ kc ks pc L [.inl x] S M := by
  intro r hr l dC dI cA b0 b N xs p e s m args below meth c H locs ls C hW hS hz hL
  obtain ⟨hx, hb, hrt, hml, hown, hts, hlk, hnm, hSF⟩ := id C
  subst hk1
  refine W.widen (Nat.le_refl _) hk2 ?_
  exact W.zret (v := Int32.ofInt x) hx hb (hrt.trans (ht r hr)) (by rcases hx01 with rfl | rfl <;> decide +kernel) (fun t ht hW2 => ⟨⟨some (.inl x), S, M, rfl, k, by rw [ht]; exact hW, hz⟩, hS.F ht⟩) hS.2.2 (hd r hr)
theorem A_vret {d mc ms y : Nat} {Φ : Option Vl → Ly → Mm → Prop} {kc ks pc : Nat} {L : Lc} {st : List Vl} {S : Ly} {M : Mm} (hd : DC y pc .return_ 1) (ht : ∀ r : MRec, mtb[y]? = some r → r.2.2.2.1 = none) (hk1 : kc = mc) (hk2 : ks ≤ ms) (k : Φ none S M) : AJ d mc ms y Φ kc ks pc L [] S M := by
  intro r hr l dC dI cA b0 b N xs p e s m args below meth c H locs ls C hW hS hz hL
  obtain ⟨hx, hb, hrt, hml, hown, hts, hlk, hnm, hSF⟩ := id C
  subst hk1
  refine W.widen (Nat.le_refl _) hk2 ?_
  exact W.vret hx hb (hrt.trans (ht r hr)) (fun t ht hW2 => ⟨⟨none, S, M, rfl, k, by rw [ht]; exact hW, hz⟩, hS.F ht⟩) hS.2.2 (hd r hr)
theorem A_aret {d mc ms y : Nat} {Φ : Option Vl → Ly → Mm → Prop} {kc ks pc : Nat} {L : Lc} {st : List Vl} {S : Ly} {M : Mm} {a : Nat} {cn : String} (hd : DC y pc .areturn 1) (ht : ∀ r : MRec, mtb[y]? = some r → r.2.2.2.1 = some (.object cn)) (hk1 : kc = mc) (hk2 : ks ≤ ms) (k : Φ (some (.inr a)) S M) : AJ d mc ms y Φ kc ks pc L [.inr a] S M := by
  intro r hr l dC dI cA b0 b N xs p e s m args below meth c H locs ls C hW hS hz hL
  obtain ⟨hx, hb, hrt, hml, hown, hts, hlk, hnm, hSF⟩ := id C
  subst hk1
  refine W.widen (Nat.le_refl _) hk2 ?_
  exact W.aret (v := .ref (adr b0 b a)) hx hb (hrt.trans (ht r hr)) (Or.inl ⟨_, rfl⟩) (Or.inr ⟨_, rfl⟩) (fun t ht hW2 => ⟨⟨some (.inr a), S, M, rfl, k, by rw [ht]; exact hW, hz⟩, hS.F ht⟩) hS.2.2 (hd r hr)
theorem cat_sum (b0 b : Nat) : ∀ st : List Vl, ((st.map (val b0 b)).map fun v => v.category).sum = st.length := by
  intro st
  induction st with
  | nil => rfl
  | cons v t ih =>
    have : (val b0 b v).category = 1 := by cases v <;> rfl
    simp only [List.map_cons, List.sum_cons, List.length_cons, this]
    simp only [List.map_map] at ih ⊢
    omega
theorem A_objInit {d mc ms y : Nat} {Φ : Option Vl → Ly → Mm → Prop} {kc ks pc : Nat} {L : Lc} {st : List Vl} {S : Ly} {M : Mm} {o idx a : Nat} (hd : DC y pc (.invokespecial idx) 3) (ho : OC y o) (hc : memb (objs o) idx = true) (hd1 : 1 ≤ d) (hl : st.length ≤ 8) (k : AJ d mc ms y Φ kc ks (pc + 3) L st S M) : AJ d mc ms y Φ kc ks pc L (.inr a :: st) S M := by
  intro r hr l dC dI cA b0 b N xs p e s m args below meth c H locs ls C hW hS hz hL
  have K := k r hr l dC dI cA b0 b N xs p e s m args below meth c H locs ls C hW hS hz hL
  obtain ⟨hx, hb, hrt, hml, hown, hts, hlk, hnm, hSF⟩ := id C
  refine W.objInit hx hb (own_of ho hr hown) (hts _ (MW_O ho.1 (memb_mem hc) _ (List.mem_singleton.mpr rfl))) (hts _ (MW_X List.mem_cons_self)) (hts _ (MW_X (List.mem_cons_of_mem _ List.mem_cons_self))) rfl (hL.1.trans hml.symm) rfl (hd r hr) hd1 ?_ K
  have h1 := cat_sum b0 b st
  have h2 := lv_room (m := m) (pc := pc) (ls := ls) (rest := (val b0 b (.inr a)) :: st.map (val b0 b)) (st := st.map (val b0 b)) (by rw [h1]; exact hl)
  show _ + _ + 12 ≤ 40 * d
  refine Nat.le_trans (Nat.add_le_add_right h2 12) ?_
  omega
theorem A_abs {d mc ms y : Nat} {Φ : Option Vl → Ly → Mm → Prop} {kc ks pc : Nat} {L : Lc} {st : List Vl} {S : Ly} {M : Mm} {o idx : Nat} {x : Int} (hd : DC y pc (.invokestatic idx) 3) (ho : OC y o) (hc : lk1 idx (maths o) = some 0) (hR : R32 x) (hd1 : 1 ≤ d) (hl : st.length ≤ 8) (hcl : kc ≤ mc) (hsl : ks ≤ ms) (k : AJ d mc ms y Φ kc ks (pc + 3) L (.inl (x.natAbs : Int) :: st) S M) : AJ d mc ms y Φ kc ks pc L (.inl x :: st) S M := by
  intro r hr l dC dI cA b0 b N xs p e s m args below meth c H locs ls C hW hS hz hL
  have K := k r hr l dC dI cA b0 b N xs p e s m args below meth c H locs ls C hW hS hz hL
  obtain ⟨hx, hb, hrt, hml, hown, hts, hlk, hnm, hSF⟩ := id C
  have K2 : W _ _ _ _ _ _ _ _ _ _ _ _ _ _ _ (F0 m (pc + 3) ls (.int (Int32.ofInt (x.natAbs : Int)) :: st.map (val b0 b))) := K
  refine va_mabs (x := Int32.ofInt x) hx hb (hml.trans hL.1.symm) (own_of ho hr hown) (hts _ (MW_J ho.1 (lk1_mem hc) _ List.mem_cons_self)) (hts _ (MW_J ho.1 (lk1_mem hc) _ (List.mem_cons_of_mem _ List.mem_cons_self))) (hts _ (MW_J5 List.mem_cons_self)) (hts _ (MW_J5 (List.mem_cons_of_mem _ (List.mem_cons_self)))) hd1 (by rw [cat_sum b0 b st]; show _ ≤ 40 * d; omega) hcl hsl (hd r hr) ?_
  have e1 : (if 0 ≤ Int32.ofInt x then Int32.ofInt x else 0 - Int32.ofInt x) = Int32.ofInt (x.natAbs : Int) := by
    by_cases h : 0 ≤ x
    · rw [if_pos (by rw [i32_zero]; exact (i32_le (by omega) hR).mpr h)]; congr 1; omega
    · rw [if_neg (by rw [i32_zero, i32_le (by omega) hR]; exact h), i32_zero, ← Int32.ofInt_sub]; congr 1; omega
  rw [e1]; exact K2
theorem A_min {d mc ms y : Nat} {Φ : Option Vl → Ly → Mm → Prop} {kc ks pc : Nat} {L : Lc} {st : List Vl} {S : Ly} {M : Mm} {o idx : Nat} {x z : Int} (hd : DC y pc (.invokestatic idx) 3) (ho : OC y o) (hc : lk1 idx (maths o) = some 1) (hR : R32 x) (hR2 : R32 z) (hd1 : 1 ≤ d) (hl : st.length ≤ 8) (hcl : kc ≤ mc) (hsl : ks ≤ ms) (k : AJ d mc ms y Φ kc ks (pc + 3) L (.inl (min x z) :: st) S M) : AJ d mc ms y Φ kc ks pc L (.inl z :: .inl x :: st) S M := by
  intro r hr l dC dI cA b0 b N xs p e s m args below meth c H locs ls C hW hS hz hL
  have K := k r hr l dC dI cA b0 b N xs p e s m args below meth c H locs ls C hW hS hz hL
  obtain ⟨hx, hb, hrt, hml, hown, hts, hlk, hnm, hSF⟩ := id C
  have K2 : W _ _ _ _ _ _ _ _ _ _ _ _ _ _ _ (F0 m (pc + 3) ls (.int (Int32.ofInt (min x z)) :: st.map (val b0 b))) := K
  refine va_mmin (x := Int32.ofInt x) (y := Int32.ofInt z) hx hb (hml.trans hL.1.symm) (own_of ho hr hown) (hts _ (MW_J ho.1 (lk1_mem hc) _ List.mem_cons_self)) (hts _ (MW_J ho.1 (lk1_mem hc) _ (List.mem_cons_of_mem _ List.mem_cons_self))) (hts _ (MW_J5 List.mem_cons_self)) (hts _ (MW_J5 (List.mem_cons_of_mem _ (List.mem_cons_of_mem _ (List.mem_cons_self))))) hd1 (by rw [cat_sum b0 b st]; show _ ≤ 40 * d; omega) hcl hsl (hd r hr) ?_
  have e1 : (if Int32.ofInt z < Int32.ofInt x then Int32.ofInt z else Int32.ofInt x) = Int32.ofInt (min x z) := by
    by_cases h : z < x
    · rw [if_pos ((i32_lt hR2 hR).mpr h)]; congr 1; omega
    · rw [if_neg (by rw [i32_lt hR2 hR]; exact h)]; congr 1; omega
  rw [e1]; exact K2
theorem A_max {d mc ms y : Nat} {Φ : Option Vl → Ly → Mm → Prop} {kc ks pc : Nat} {L : Lc} {st : List Vl} {S : Ly} {M : Mm} {o idx : Nat} {x z : Int} (hd : DC y pc (.invokestatic idx) 3) (ho : OC y o) (hc : lk1 idx (maths o) = some 2) (hR : R32 x) (hR2 : R32 z) (hd1 : 1 ≤ d) (hl : st.length ≤ 8) (hcl : kc ≤ mc) (hsl : ks ≤ ms) (k : AJ d mc ms y Φ kc ks (pc + 3) L (.inl (max x z) :: st) S M) : AJ d mc ms y Φ kc ks pc L (.inl z :: .inl x :: st) S M := by
  intro r hr l dC dI cA b0 b N xs p e s m args below meth c H locs ls C hW hS hz hL
  have K := k r hr l dC dI cA b0 b N xs p e s m args below meth c H locs ls C hW hS hz hL
  obtain ⟨hx, hb, hrt, hml, hown, hts, hlk, hnm, hSF⟩ := id C
  have K2 : W _ _ _ _ _ _ _ _ _ _ _ _ _ _ _ (F0 m (pc + 3) ls (.int (Int32.ofInt (max x z)) :: st.map (val b0 b))) := K
  refine va_mmax (x := Int32.ofInt x) (y := Int32.ofInt z) hx hb (hml.trans hL.1.symm) (own_of ho hr hown) (hts _ (MW_J ho.1 (lk1_mem hc) _ List.mem_cons_self)) (hts _ (MW_J ho.1 (lk1_mem hc) _ (List.mem_cons_of_mem _ List.mem_cons_self))) (hts _ (MW_J5 List.mem_cons_self)) (hts _ (MW_J5 (List.mem_cons_of_mem _ (List.mem_cons_of_mem _ (List.mem_cons_of_mem _ (List.mem_cons_self)))))) hd1 (by rw [cat_sum b0 b st]; show _ ≤ 40 * d; omega) hcl hsl (hd r hr) ?_
  have e1 : (if Int32.ofInt x < Int32.ofInt z then Int32.ofInt z else Int32.ofInt x) = Int32.ofInt (max x z) := by
    by_cases h : x < z
    · rw [if_pos ((i32_lt hR hR2).mpr h)]; congr 1; omega
    · rw [if_neg (by rw [i32_lt hR hR2]; exact h)]; congr 1; omega
  rw [e1]; exact K2
theorem call_ok {o idx y' np cl : Nat} {st nest ini : Bool} (h : (idx, y', np, st, nest, ini, cl) ∈ calls o) : ∃ r : MRec, mtb[y']? = some r ∧ r ∈ mtb0 ∧ r.2.2.2.2.1 = st ∧ (parseMethodDescriptor r.1.desc).map (fun d => d.parameters.length + (if st then 0 else 1)) = some np ∧ (ini = (r.1.name == "<init>")) ∧ r.2.2.2.2.2 = cl ∧ (nest = true → ∃ host : String, (cnm o, idx, r.1, host) ∈ nests) ∧ (nest = false → o < nCl → Cond.methodLink (cnm o) idx r.1 ∈ MW) := by
  have h1 := okC_all o _ h
  have h2 := fun ho => MW_C (o := o) ho h
  unfold okC at h1
  unfold wC at h2
  dsimp only at h1 h2
  cases hv : mtb[y']? with
  | none => rw [hv] at h1; cases h1
  | some r =>
    rw [hv] at h1 h2
    simp only [Bool.and_eq_true, decide_eq_true_eq, beq_iff_eq, Bool.or_eq_true, Bool.not_eq_true', List.any_eq_true] at h1
    obtain ⟨⟨⟨⟨⟨a1, a2⟩, a3⟩, a4⟩, a5⟩, a6⟩ := h1
    refine ⟨r, rfl, ?_, a2, a3, a4, a5, fun hn => ?_, fun hn ho => h2 ho _ (by rw [hn]; exact List.mem_singleton.mpr rfl)⟩
    · have hv2 : mtb0[y']? = some r := by rw [← hv]; unfold mtb; rw [List.getElem?_append_left a1]
      exact List.mem_of_getElem? hv2
    · rcases a6 with a6 | ⟨q, q1, ⟨q2, q3⟩, q4⟩
      · rw [hn] at a6; cases a6
      · obtain ⟨n1, n2, n3, n4⟩ := q
        dsimp only at q2 q3 q4
        subst q2; subst q3; subst q4
        exact ⟨n4, q1⟩
theorem rec_ok {r : MRec} (h : r ∈ mtb0) : plainName r.1.cls = true ∧ (r.1.cls ≠ "java/lang/invoke/MethodHandle" ∧ r.1.cls ≠ "java/lang/invoke/VarHandle") ∧ r.2.2.1 ≤ 21 ∧ cnm r.2.2.2.2.2 = r.1.cls := by
  have h1 := okR_all r h
  unfold okR at h1
  simp only [Bool.and_eq_true, bne_iff_ne, beq_iff_eq] at h1
  exact ⟨h1.1.1.1.1, ⟨h1.1.1.1.2, h1.1.1.2⟩, Nat.le_of_ble_eq_true h1.1.2, h1.2⟩
theorem SF.to {dC : Nat → ClassId} {dI : Nat → Nat → Nat} {cA : ClassId} {b0 b N : Nat} {xs : Nat → Int32} {s U : State} {H : Heap} {locs : List Loc} (h : SF dC dI cA b0 b N xs s) (hS : va_S (fun q => b0 ≤ q) s.heap H locs) (hU : U.heap = H) (hW : s.WarmedH U.vm) : SF dC dI cA b0 b N xs U := by
  obtain ⟨h1, h2, h3, h4, h5, h6, h7⟩ := h
  refine ⟨va_K.moved hW.alike h1, fun q hq => va_Nw.warmM hW (h2 q hq), ?_, h4, ?_, h6, h7.to hS h5 hU hW⟩
  · exact va_X.moved hW.alike (va_X.kept h3 (by rw [hU]; exact hS.2.1 b (Nat.lt_of_lt_of_le h4 h5) (Nat.not_le.mpr h4)))
  · rw [hU]; exact Nat.le_trans h5 hS.1
theorem blind_ok {dC : Nat → ClassId} {dI : Nat → Nat → Nat} {cA : ClassId} {b0 b N : Nat} {xs : Nat → Int32} {av : List Value} {S : Ly} {M : Mm} : FrameBlind (va_Pc av (fun U => WD dC dI cA b0 b N xs S M U.heap ∧ SF dC dI cA b0 b N xs U ∧ U.heap.size + 1 = b0 + S.length)) := by
  intro a U g mk q
  obtain ⟨q0, q1, ⟨h1, h2, h3, h4, h5, h6, z1, z2, z3, z4, z5⟩, q3⟩ := q
  exact ⟨q0, q1, ⟨va_K.moved (u := U) (U := U.calling g mk a) (Vm.Alike.refl U.vm) h1, fun q hq => va_Nw.same (u := U) (U := U.calling g mk a) rfl rfl (h2 q hq), va_X.moved (u := U) (U := U.calling g mk a) (Vm.Alike.refl U.vm) h3, h4, h5, h6, z1.same (U := U.calling g mk a) rfl (Vm.Alike.refl U.vm), z2.same (U := U.calling g mk a) rfl (Vm.Alike.refl U.vm), va_Nw.same (u := U) (U := U.calling g mk a) rfl rfl z3, va_Nw.same (u := U) (U := U.calling g mk a) rfl rfl z4, va_Nw.same (u := U) (U := U.calling g mk a) rfl rfl z5⟩, q3⟩
theorem am_call {p : Program} {l : Launch} {e : Env} {R : Room} {s : State} {m : MethodId} {args : Array Value} {below : List Frame} {meth : Method} {c : Code} {H : Heap} {locs : List Loc} {kc ks : Nat} {Q : State → Prop} {pc : Nat} {ls : Array Slot} {st0 : List Value} {rest : List Vl} {a : Array Value} {mc' ms' : Nat}
    {dC : Nat → ClassId} {dI : Nat → Nat → Nat} {cA : ClassId} {b0 b N : Nat} {xs : Nat → Int32} {Φ : Option Vl → Ly → Mm → Prop} {S : Ly}
    (hr : va_Run p l e R s m args below meth c H locs kc ks mc' ms' (F0 m pc ls st0) (rest.map (val b0 b)) (QQ mc' dC dI cA b0 b N xs Φ a) (fun q => b0 ≤ q)) (hS : va_S (fun q => b0 ≤ q) s.heap H locs) (hz : s.heap.size + kc + 1 = b0 + S.length) (hH : H.size + 1 = b0 + S.length)
    (kk : ∀ (r : Option Vl) (S' : Ly) (M' : Mm) (H1 : Heap) (locs1 : List Loc), Φ r S' M' → WD dC dI cA b0 b N xs S' M' H1 → va_S (fun q => b0 ≤ q) s.heap H1 locs1 → s.heap.size + (kc + mc') + 1 = b0 + S'.length → W p l e R s m args below meth c H1 locs1 (kc + mc') (ks + ms') Q (F0 m (pc + 3) ls ((pushO r rest).map (val b0 b)))) :
    W p l e R s m args below meth c H locs kc ks Q (F0 m pc ls st0) := by
  intro T hT X
  obtain ⟨v, st₀, t, T', L, h0, X', hL, e1, e2, ⟨⟨r, S', M', hv, hp, hw, hz'⟩, hz2, hk⟩, st⟩ := hr T hT X
  cases hv
  rw [h0] at hz2 hk hz'
  have K := kk r S' M' T'.heap (locs ++ L) hp (by rw [e1]; exact hw) ⟨Nat.le_trans hS.1 (by rw [e1]; exact hz2), fun q h1 h2 => by rw [e1, hk q (Nat.lt_of_lt_of_le h1 hS.1) h2]; exact hS.2.1 q h1 h2, fun q hq => by
      rcases List.mem_append.mp hq with h | h
      · exact hS.2.2 q h
      · exact hL q h⟩ (by omega)
  have e3 : (r.map (val b0 b)).toList ++ rest.map (val b0 b) = (pushO r rest).map (val b0 b) := by cases r <;> rfl
  rw [← e3] at K
  obtain ⟨t2, a1, b1⟩ := K T' rfl X'
  exact ⟨t2, st t2 a1, b1⟩
theorem A_callS {d mc ms y : Nat} {Φ : Option Vl → Ly → Mm → Prop} {kc ks pc : Nat} {L : Lc} {st : List Vl} {S : Ly} {M : Mm} {o idx y' np cl d' mc' ms' : Nat} {nest ini : Bool} {as rest : List Vl} {Φ' : Option Vl → Ly → Mm → Prop} (hd : DC y pc (.invokestatic idx) 3) (ho : OC y o) (hc : lk1 idx (calls o) = some (y', np, true, nest, ini, cl)) (hn : as.length = np) (hl : rest.length ≤ 8) (hd' : d' + 1 ≤ d) (hk1 : kc + mc' ≤ mc) (hk2 : ks + ms' ≤ ms) (hR : Ret d' mc' ms' y' as S M Φ') (k : ∀ (r : Option Vl) (S' : Ly) (M' : Mm), Φ' r S' M' → MOk M' → AJ d mc ms y Φ (kc + mc') (ks + ms') (pc + 3) L (pushO r rest) S' M') : AJ d mc ms y Φ kc ks pc L (as.reverse ++ rest) S M := by
  intro r hr l dC dI cA b0 b N xs p e s m args below meth c H locs ls C hW hS hz hL
  obtain ⟨hx, hb, hrt, hml, hown, hts, hlk, hnm, hSF⟩ := id C
  obtain ⟨r', hr', hm', hst, hpar, hini, hcl, hnest, hlink⟩ := call_ok (lk1_mem hc)
  obtain ⟨hpl, hne, hmx, hcn⟩ := rec_ok hm'
  obtain ⟨w0, w1⟩ := MW_r hm'
  have hM := hR r' hr' l dC dI cA b0 b N xs
  have hgood : GoodIn MW (wMc r' :: MW) := MW_good (fun w hw => by rcases List.mem_cons.mp hw with rfl | hw; exact w0; exact hw)
  intro T0 hT0 X0
  have hsz : H.size + 1 = b0 + S.length := by
    have h1 := stand_size X0
    have h2 := hW.size (Nat.le_trans hSF.2.2.2.2.1 hS.1)
    rw [hT0] at h1
    omega
  refine (?_ : W p l e (rmm d mc ms) s m args below meth c H locs kc ks (MQ below (QQ mc dC dI cA b0 b N xs Φ) args s mc ms (fun q => b0 ≤ q)) (F0 m pc ls (List.map (val b0 b) ((as.reverse ++ rest))))) T0 hT0 X0
  have hU : ∀ U : State, U.heap = H → s.WarmedH U.vm → va_Pc (as.map (val b0 b)) (fun U => WD dC dI cA b0 b N xs S M U.heap ∧ SF dC dI cA b0 b N xs U ∧ U.heap.size + 1 = b0 + S.length) (as.map (val b0 b)).toArray U := fun U hU1 hU2 => ⟨rfl, by rw [hU1]; exact hW, hSF.to hS hU1 hU2, by rw [hU1]; exact hsz⟩
  have hroom : (rmm d' mc' ms').frames + 1 ≤ (rmm d mc ms).frames ∧ 8 + (r'.2.2.1 + 11) + (rmm d' mc' ms').locals ≤ (rmm d mc ms).locals := ⟨hd', by show 8 + (r'.2.2.1 + 11) + 40 * d' ≤ 40 * d; omega⟩
  have hrest : 2 * (F0 m pc ls (List.map (val b0 b) ((as.reverse ++ rest)))).monitorRoom + ((rest.map (val b0 b)).map fun v => v.category).sum ≤ 8 := lv_room (by rw [cat_sum b0 b rest]; exact hl)
  have hgo := fun (r : Option Vl) (S' : Ly) (M' : Mm) (H1 : Heap) (locs1 : List Loc) (hΦ : Φ' r S' M') (hW1 : WD dC dI cA b0 b N xs S' M' H1) (hS1 : va_S (fun q => b0 ≤ q) s.heap H1 locs1) (hz1 : s.heap.size + (kc + mc') + 1 = b0 + S'.length) => k r S' M' hΦ (by obtain ⟨_, _, h3, _⟩ := id hW1; exact h3) _ hr l dC dI cA b0 b N xs p e s m args below meth c H1 locs1 ls C hW1 hS1 hz1 hL
  have hstw : (Cond.static r'.1).before args s = true := hts _ (w1 _ (by unfold wM; rw [hst]; exact List.mem_cons_of_mem _ (List.mem_singleton.mpr rfl)))
  have hiw : (Cond.initialized r'.1.cls).before args s = true := hts _ (w1 _ (by unfold wM; exact List.mem_cons_self))
  have hpar2 : (parseMethodDescriptor r'.1.desc).map (fun d => d.parameters.length) = some np := by simpa using hpar
  have hstk : List.map (val b0 b) (as.reverse ++ rest) = (as.map (val b0 b)).reverse ++ rest.map (val b0 b) := by simp
  cases nest with
  | false => exact am_call (va_runS (As := as.map (val b0 b)) (rest := rest.map (val b0 b)) ⟨hx, hb, hml, own_of ho hr hown, hts⟩ hM ⟨callB_of np hts hgood rfl rfl rfl hiw (hts _ (hlink rfl ho.1)) ⟨hne.1, hne.2, hpar2⟩ hroom, hstw⟩ ⟨blind_ok, hU⟩ rfl (by simpa using hn) hL.1 hstk hrest (hd r hr) ⟨hk1, hk2⟩) hS hz hsz hgo
  | true =>
    obtain ⟨host, hho⟩ := hnest rfl
    exact am_call (va_runSN (As := as.map (val b0 b)) (rest := rest.map (val b0 b)) ⟨hx, hb, hml, own_of ho hr hown, hts⟩ hM ⟨va_cnB np hts hgood rfl rfl rfl (hSF.2.1 _ hho) hiw ⟨hne.1, hne.2, hpar2⟩ hroom, hstw, trivial⟩ ⟨blind_ok, hU⟩ rfl (by simpa using hn) hL.1 hstk hrest (hd r hr) ⟨hk1, hk2⟩) hS hz hsz hgo
theorem A_callV {d mc ms y : Nat} {Φ : Option Vl → Ly → Mm → Prop} {kc ks pc : Nat} {L : Lc} {st : List Vl} {S : Ly} {M : Mm} {o idx y' np cl d' mc' ms' : Nat} {nest ini : Bool} {as rest : List Vl} {Φ' : Option Vl → Ly → Mm → Prop} {a : Nat} {asr : List Vl} {fs : List Fk} (hd : DC y pc (.invokevirtual idx) 3) (ho : OC y o) (hc : lk1 idx (calls o) = some (y', np, false, false, false, cl)) (has : as = .inr a :: asr) (hn : as.length = np) (hs : shp S a = some (.inr (cl, fs))) (hl : rest.length ≤ 8) (hd' : d' + 1 ≤ d) (hk1 : kc + mc' ≤ mc) (hk2 : ks + ms' ≤ ms) (hR : Ret d' mc' ms' y' as S M Φ') (k : ∀ (r : Option Vl) (S' : Ly) (M' : Mm), Φ' r S' M' → MOk M' → AJ d mc ms y Φ (kc + mc') (ks + ms') (pc + 3) L (pushO r rest) S' M') : AJ d mc ms y Φ kc ks pc L (as.reverse ++ rest) S M := by
  intro r hr l dC dI cA b0 b N xs p e s m args below meth c H locs ls C hW hS hz hL
  obtain ⟨hx, hb, hrt, hml, hown, hts, hlk, hnm, hSF⟩ := id C
  obtain ⟨r', hr', hm', hst, hpar, hini, hcl, hnest, hlink⟩ := call_ok (lk1_mem hc)
  obtain ⟨hpl, hne, hmx, hcn⟩ := rec_ok hm'
  obtain ⟨w0, w1⟩ := MW_r hm'
  have hM := hR r' hr' l dC dI cA b0 b N xs
  have hgood : GoodIn MW (wMc r' :: MW) := MW_good (fun w hw => by rcases List.mem_cons.mp hw with rfl | hw; exact w0; exact hw)
  intro T0 hT0 X0
  have hsz : H.size + 1 = b0 + S.length := by
    have h1 := stand_size X0
    have h2 := hW.size (Nat.le_trans hSF.2.2.2.2.1 hS.1)
    rw [hT0] at h1
    omega
  refine (?_ : W p l e (rmm d mc ms) s m args below meth c H locs kc ks (MQ below (QQ mc dC dI cA b0 b N xs Φ) args s mc ms (fun q => b0 ≤ q)) (F0 m pc ls (List.map (val b0 b) ((as.reverse ++ rest))))) T0 hT0 X0
  have hU : ∀ U : State, U.heap = H → s.WarmedH U.vm → va_Pc (as.map (val b0 b)) (fun U => WD dC dI cA b0 b N xs S M U.heap ∧ SF dC dI cA b0 b N xs U ∧ U.heap.size + 1 = b0 + S.length) (as.map (val b0 b)).toArray U := fun U hU1 hU2 => ⟨rfl, by rw [hU1]; exact hW, hSF.to hS hU1 hU2, by rw [hU1]; exact hsz⟩
  have hroom : (rmm d' mc' ms').frames + 1 ≤ (rmm d mc ms).frames ∧ 8 + (r'.2.2.1 + 11) + (rmm d' mc' ms').locals ≤ (rmm d mc ms).locals := ⟨hd', by show 8 + (r'.2.2.1 + 11) + 40 * d' ≤ 40 * d; omega⟩
  have hrest : 2 * (F0 m pc ls (List.map (val b0 b) ((as.reverse ++ rest)))).monitorRoom + ((rest.map (val b0 b)).map fun v => v.category).sum ≤ 8 := lv_room (by rw [cat_sum b0 b rest]; exact hl)
  have hgo := fun (r : Option Vl) (S' : Ly) (M' : Mm) (H1 : Heap) (locs1 : List Loc) (hΦ : Φ' r S' M') (hW1 : WD dC dI cA b0 b N xs S' M' H1) (hS1 : va_S (fun q => b0 ≤ q) s.heap H1 locs1) (hz1 : s.heap.size + (kc + mc') + 1 = b0 + S'.length) => k r S' M' hΦ (by obtain ⟨_, _, h3, _⟩ := id hW1; exact h3) _ hr l dC dI cA b0 b N xs p e s m args below meth c H1 locs1 ls C hW1 hS1 hz1 hL
  subst has
  have hninit : r'.1.name ≠ "<init>" := by intro h; rw [h] at hini; simp at hini
  have hwm : wM r' = [.initialized r'.1.cls, .instanceMethod r'.1, .selects r'.1.cls r'.1 r'.1] := by unfold wM; rw [hst, if_neg hninit]; rfl
  have hpar2 : (parseMethodDescriptor r'.1.desc).map (fun d => d.parameters.length) = some asr.length := by
    cases hp : parseMethodDescriptor r'.1.desc with
    | none => rw [hp] at hpar; cases hpar
    | some dd => rw [hp] at hpar; simp at hpar hn ⊢; omega
  have hstk : List.map (val b0 b) ((.inr a :: asr).reverse ++ rest) = (asr.map (val b0 b)).reverse ++ .ref (adr b0 b a) :: rest.map (val b0 b) := by simp [val]
  obtain ⟨T, q, rfl, rfl, hT, hP, he⟩ := hW.cell hs (hW.obj hs)
  have hcv : vwCl[cl]? = some (r'.1.cls, (vwCl[cl]?.getD ("", fun _ => ("", "", "", false), 0)).2) := by
    obtain ⟨q', h1, -⟩ := hP q _ he
    have h2 := cnm_ok cl q' h1
    rw [h1]
    obtain ⟨n1, n2⟩ := q'
    dsimp only at h2 ⊢
    rw [← hcn, hcl, h2]; rfl
  have hrv := va_recv (s := s) hSF.1 hP hcv he
  refine am_call (va_runV (b := adr b0 b (q + 1)) (As := asr.map (val b0 b)) (rest := rest.map (val b0 b)) ⟨hx, hb, hml, own_of ho hr hown, hts⟩ hM (cwV (C := r'.1.cls) asr.length hts (MW_good ?_) rfl rfl rfl ⟨rfl, hne.1, hne.2, hpar2⟩ hroom) ⟨blind_ok, hrv, hU⟩ rfl (by simp) hL.1 hstk hrest (hd r hr) ⟨hk1, hk2⟩) hS hz hsz hgo
  intro w hw
  unfold wsV at hw
  simp only [List.mem_append, List.mem_cons, List.not_mem_nil, or_false] at hw
  rcases hw with (rfl | rfl | rfl | rfl) | rfl | hw
  · exact hlink rfl ho.1
  · exact w1 _ (by rw [hwm]; simp)
  · exact w1 _ (by rw [hwm]; simp)
  · exact w1 _ (by rw [hwm]; simp)
  · exact w0
  · exact hw
theorem A_callI {d mc ms y : Nat} {Φ : Option Vl → Ly → Mm → Prop} {kc ks pc : Nat} {L : Lc} {st : List Vl} {S : Ly} {M : Mm} {o idx y' np cl d' mc' ms' : Nat} {nest ini : Bool} {as rest : List Vl} {Φ' : Option Vl → Ly → Mm → Prop} {a : Nat} {asr : List Vl} (hd : DC y pc (.invokespecial idx) 3) (ho : OC y o) (hc : lk1 idx (calls o) = some (y', np, false, nest, true, cl)) (has : as = .inr a :: asr) (hn : as.length = np) (hret : ∀ r : MRec, mtb[y']? = some r → r.2.2.2.1 = none) (hl : rest.length ≤ 8) (hd' : d' + 1 ≤ d) (hk1 : kc + mc' ≤ mc) (hk2 : ks + ms' ≤ ms) (hR : Ret d' mc' ms' y' as S M Φ') (k : ∀ (r : Option Vl) (S' : Ly) (M' : Mm), Φ' r S' M' → MOk M' → AJ d mc ms y Φ (kc + mc') (ks + ms') (pc + 3) L (pushO r rest) S' M') : AJ d mc ms y Φ kc ks pc L (as.reverse ++ rest) S M := by
  intro r hr l dC dI cA b0 b N xs p e s m args below meth c H locs ls C hW hS hz hL
  obtain ⟨hx, hb, hrt, hml, hown, hts, hlk, hnm, hSF⟩ := id C
  obtain ⟨r', hr', hm', hst, hpar, hini, hcl, hnest, hlink⟩ := call_ok (lk1_mem hc)
  obtain ⟨hpl, hne, hmx, hcn⟩ := rec_ok hm'
  obtain ⟨w0, w1⟩ := MW_r hm'
  have hM := hR r' hr' l dC dI cA b0 b N xs
  have hgood : GoodIn MW (wMc r' :: MW) := MW_good (fun w hw => by rcases List.mem_cons.mp hw with rfl | hw; exact w0; exact hw)
  intro T0 hT0 X0
  have hsz : H.size + 1 = b0 + S.length := by
    have h1 := stand_size X0
    have h2 := hW.size (Nat.le_trans hSF.2.2.2.2.1 hS.1)
    rw [hT0] at h1
    omega
  refine (?_ : W p l e (rmm d mc ms) s m args below meth c H locs kc ks (MQ below (QQ mc dC dI cA b0 b N xs Φ) args s mc ms (fun q => b0 ≤ q)) (F0 m pc ls (List.map (val b0 b) ((as.reverse ++ rest))))) T0 hT0 X0
  have hU : ∀ U : State, U.heap = H → s.WarmedH U.vm → va_Pc (as.map (val b0 b)) (fun U => WD dC dI cA b0 b N xs S M U.heap ∧ SF dC dI cA b0 b N xs U ∧ U.heap.size + 1 = b0 + S.length) (as.map (val b0 b)).toArray U := fun U hU1 hU2 => ⟨rfl, by rw [hU1]; exact hW, hSF.to hS hU1 hU2, by rw [hU1]; exact hsz⟩
  have hroom : (rmm d' mc' ms').frames + 1 ≤ (rmm d mc ms).frames ∧ 8 + (r'.2.2.1 + 11) + (rmm d' mc' ms').locals ≤ (rmm d mc ms).locals := ⟨hd', by show 8 + (r'.2.2.1 + 11) + 40 * d' ≤ 40 * d; omega⟩
  have hrest : 2 * (F0 m pc ls (List.map (val b0 b) ((as.reverse ++ rest)))).monitorRoom + ((rest.map (val b0 b)).map fun v => v.category).sum ≤ 8 := lv_room (by rw [cat_sum b0 b rest]; exact hl)
  have hgo := fun (r : Option Vl) (S' : Ly) (M' : Mm) (H1 : Heap) (locs1 : List Loc) (hΦ : Φ' r S' M') (hW1 : WD dC dI cA b0 b N xs S' M' H1) (hS1 : va_S (fun q => b0 ≤ q) s.heap H1 locs1) (hz1 : s.heap.size + (kc + mc') + 1 = b0 + S'.length) => k r S' M' hΦ (by obtain ⟨_, _, h3, _⟩ := id hW1; exact h3) _ hr l dC dI cA b0 b N xs p e s m args below meth c H1 locs1 ls C hW1 hS1 hz1 hL
  subst has
  have hinit : r'.1.name = "<init>" := by simpa using hini.symm
  have hwm : wM r' = [.initialized r'.1.cls, .instanceMethod r'.1] := by unfold wM; rw [hst, if_pos hinit]; rfl
  have hpar2 : (parseMethodDescriptor r'.1.desc).map (fun d => d.parameters.length) = some asr.length := by
    cases hp : parseMethodDescriptor r'.1.desc with
    | none => rw [hp] at hpar; cases hpar
    | some dd => rw [hp] at hpar; simp at hpar hn ⊢; omega
  have hstk : List.map (val b0 b) ((.inr a :: asr).reverse ++ rest) = (asr.map (val b0 b)).reverse ++ .ref (adr b0 b a) :: rest.map (val b0 b) := by simp [val]
  have hiw : (Cond.initialized r'.1.cls).before args s = true := hts _ (w1 _ (by rw [hwm]; simp))
  have hmw : (Cond.instanceMethod r'.1).before args s = true := hts _ (w1 _ (by rw [hwm]; simp))
  have hret := hret r' hr'
  have hcw : (wMc r' :: MW) = Cond.code r'.1 r'.2.1 r'.2.2.1 none :: MW := by unfold wMc; rw [hret]
  cases nest with
  | false => exact am_call (va_runI (b := adr b0 b a) (As := asr.map (val b0 b)) (rest := rest.map (val b0 b)) ⟨hx, hb, hml, own_of ho hr hown, hts⟩ hM ⟨callB_of asr.length hts hgood hcw rfl rfl hiw (hts _ (hlink rfl ho.1)) ⟨hne.1, hne.2, hpar2⟩ hroom, hinit, hmw⟩ ⟨blind_ok, hU⟩ rfl (by simp) hL.1 hstk hrest (hd r hr) ⟨hk1, hk2⟩) hS hz hsz hgo
  | true =>
    obtain ⟨host, hho⟩ := hnest rfl
    exact am_call (va_runIN (b := adr b0 b a) (As := asr.map (val b0 b)) (rest := rest.map (val b0 b)) ⟨hx, hb, hml, own_of ho hr hown, hts⟩ hM ⟨va_cnB asr.length hts hgood hcw rfl rfl (hSF.2.1 _ hho) hiw ⟨hne.1, hne.2, hpar2⟩ hroom, hinit, hmw⟩ ⟨blind_ok, hU⟩ rfl (by simp) hL.1 hstk hrest (hd r hr) ⟨hk1, hk2⟩) hS hz hsz hgo
theorem args_LV (b0 b : Nat) : ∀ (as : List Vl) (i0 i : Nat) (v : Vl), getL (as.map some) i = some v → (i0 + i, val b0 b v) ∈ lv_args i0 (as.map (val b0 b)) := by
  intro as
  induction as with
  | nil => intro i0 i v h; cases h
  | cons w t ih =>
    intro i0 i v h
    have hc : (val b0 b w).category = 1 := by cases w <;> rfl
    simp only [List.map_cons, lv_args]
    rw [if_neg (by rw [hc]; decide)]
    cases i with
    | zero => simp [getL] at h; subst h; exact List.mem_cons_self
    | succ i =>
      have h1 := ih (i0 + 1) i v h
      rw [show i0 + 1 + i = i0 + (i + 1) by omega] at h1
      exact List.mem_cons_of_mem _ h1
theorem lg_len (b0 b : Nat) : ∀ as : List Vl, (lg_sl (as.map (val b0 b))).length = as.length := by
  intro as
  induction as with
  | nil => rfl
  | cons w t ih =>
    have hc : (val b0 b w).category = 1 := by cases w <;> rfl
    unfold lg_sl at ih ⊢
    simp only [List.map_cons, List.flatMap_cons, List.length_append, ih, List.length_cons]
    rw [if_neg (by rw [hc]; decide)]
    simp; omega
theorem Ret.ofAJ {d mc ms y : Nat} {as : List Vl} {S : Ly} {M : Mm} {Φ : Option Vl → Ly → Mm → Prop} (hy : y < mtb0.length) (hn : ∀ r : MRec, mtb[y]? = some r → as.length ≤ r.2.2.1) (h : MOk M → AJ d mc ms y Φ 0 0 0 (as.map some) [] S M) : Ret d mc ms y as S M Φ := by
  intro r hr l dC dI cA b0 b N xs
  have hm : r ∈ mtb0 := by
    have hv2 : mtb0[y]? = some r := by rw [← hr]; unfold mtb; rw [List.getElem?_append_left hy]
    exact List.mem_of_getElem? hv2
  obtain ⟨hpl, hne, hmx, hcn⟩ := rec_ok hm
  refine Met.ofW (cc := r.2.1) (maxL := r.2.2.1) (ret := r.2.2.2.1) hpl rfl ?_
  intro p e s m args below meth c s₁ B hml hv
  obtain ⟨rfl, hW, hSF, hsz⟩ := hv
  have hts := atoms_spec (ws := wMc r :: MW) B.pre
  have hl := lv_entry (as.map (val b0 b)) (n := r.2.2.1) (by rw [lg_len]; exact hn r hr)
  rw [lg_entry_eq]
  generalize (lg_sl (as.map (val b0 b)) ++ List.replicate (r.2.2.1 - (lg_sl (as.map (val b0 b))).length) Slot.unset).toArray = ls at hl ⊢
  refine AJ.MOk_ h r hr l dC dI cA b0 b N xs p e s m _ below meth c s.heap [] ls ⟨B.exec, B.bytes, B.returns, hml, ?_, fun w hw => hts w (List.mem_cons_of_mem _ hw), B.notSynchronized, (fun h9 => ((name_of_methodNamed B.named B.method).1).trans h9), hSF⟩ hW va_S.rf hsz ⟨hl.1, hl.2.1, fun i v hi => ?_⟩
  · rw [hcn]; exact findClass_of_methodNamed B.named
  · have h1 := args_LV b0 b as 0 i v hi
    rw [Nat.zero_add] at h1
    exact hl.2.2 _ h1
theorem ent_z {b0 b : Nat} {cA : ClassId} {M : Mm} {a k : Nat} (h : k ≠ a) (sh : Sh) : ent b0 b cA (mzero M a) k sh = ent b0 b cA M k sh := by
  cases sh with
  | inl n => simp [ent, mzero, h]
  | inr q =>
    have : (fun (j : Nat) (f : Fk) => fv b0 b (mzero M a) k j f) = fun j f => fv b0 b M k j f := by
      funext j f
      cases f <;> simp [fv, mzero, h]
    simp [ent, this]
theorem wl_push {b0 b : Nat} {cA : ClassId} {T : Ly} {M : Mm} {sh : Sh} : wl b0 b cA (T ++ [sh]) (mzero M (T.length + 1)) = wl b0 b cA T M ++ [(b0 + T.length, ent b0 b cA (mzero M (T.length + 1)) (T.length + 1) sh)] := by
  apply List.ext_getElem?
  intro k
  rw [wl_get]
  by_cases hk : k < T.length
  · rw [List.getElem?_append_left hk, List.getElem?_append_left (by simpa [wl] using hk), wl_get]
    cases T[k]? with
    | none => rfl
    | some s2 => simp only [Option.map_some]; rw [ent_z (by omega)]
  · rw [List.getElem?_append_right (by omega), List.getElem?_append_right (by simp [wl]; omega)]
    have hl : (wl b0 b cA T M).length = T.length := by simp [wl]
    rw [hl]
    by_cases h0 : k - T.length = 0
    · rw [h0]
      have : k = T.length := by omega
      subst this
      rfl
    · have : ∃ j, k - T.length = j + 1 := ⟨k - T.length - 1, by omega⟩
      obtain ⟨j, hj⟩ := this
      rw [hj]; rfl
theorem wl_fresh {b0 b : Nat} {cA : ClassId} {T : Ly} {M : Mm} {q : Nat} {E : va_E} {H1 : Heap} {dC : Nat → ClassId} {dI : Nat → Nat → Nat} (hP : va_P (dC, dI) vwCl (wl b0 b cA T M ++ [(q, E)]) H1) (hD : va_D (fun q => b0 ≤ q) (wl b0 b cA T M ++ [(q, E)])) (hz : H1.size ≤ b0 + T.length + 1) : q = b0 + T.length := by
  have hl : (wl b0 b cA T M).length = T.length := by simp [wl]
  have hq : (wl b0 b cA T M ++ [(q, E)])[T.length]? = some (q, E) := by rw [List.getElem?_append_right (by omega), hl]; simp
  have h1 := (hP _ _ hq).lt
  have h2 : b0 ≤ q := hD.2 _ _ hq
  dsimp only at h1
  by_cases h : q = b0 + T.length
  · exact h
  · have hlt : q - b0 < T.length := by omega
    have h3 : (wl b0 b cA T M ++ [(q, E)])[q - b0]? = some (b0 + (q - b0), ent b0 b cA M (q - b0 + 1) T[q - b0]) := by
      rw [List.getElem?_append_left (by omega), wl_get, List.getElem?_eq_getElem hlt]; rfl
    have h4 := hD.1 _ _ _ _ hq h3 (by dsimp only; omega)
    omega
theorem WD.push {dC : Nat → ClassId} {dI : Nat → Nat → Nat} {cA : ClassId} {b0 b N : Nat} {xs : Nat → Int32} {T : Ly} {M : Mm} {H H1 : Heap} {sh : Sh} (h : WD dC dI cA b0 b N xs (.inl N :: T) M H) (hP : va_P (dC, dI) vwCl (wl b0 b cA T M ++ [(b0 + T.length, ent b0 b cA (mzero M (T.length + 1)) (T.length + 1) sh)]) H1) : WD dC dI cA b0 b N xs (.inl N :: T ++ [sh]) (mzero M (T.length + 1)) H1 := by
  obtain ⟨T', e1, h3, h4, h5⟩ := h
  cases e1
  refine ⟨T ++ [sh], rfl, fun k j => ?_, fun j hj => ?_, by rw [wl_push]; exact hP⟩
  · unfold mzero; split
    · omega
    · exact h3 k j
  · rw [← h4 j hj]; simp [mzero]
theorem A_newarr {d mc ms y : Nat} {Φ : Option Vl → Ly → Mm → Prop} {kc ks pc : Nat} {L : Lc} {st : List Vl} {S : Ly} {M : Mm} {n : Nat} (hd : DC y pc (.newarray .int) 2) (hn : n ≤ 100000) (hk1 : kc + 1 ≤ mc) (hk2 : ks + n ≤ ms) (k : AJ d mc ms y Φ (kc + 1) (ks + n) (pc + 2) L (.inr S.length :: st) (S ++ [.inl n]) (mzero M S.length)) : AJ d mc ms y Φ kc ks pc L (.inl (n : Int) :: st) S M := by
  intro r hr l dC dI cA b0 b N xs p e s m args below meth c H locs ls C hW hS hz hL
  obtain ⟨hx, hb, hrt, hml, hown, hts, hlk, hnm, hSF⟩ := id C
  obtain ⟨T, rfl, h3, h4, hP⟩ := id hW
  have hRn : R32 (n : Int) := by constructor <;> omega
  refine va_newa (atype := .int) hx hb (hts _ (MW_X (List.mem_cons_of_mem _ (List.mem_cons_of_mem _ List.mem_cons_self)))) rfl hSF.1 hP (wl_D b0 b cA T M) hS (fun q hq => Nat.le_trans hSF.2.2.2.2.1 hq) (n := Int32.ofInt n) (N' := n) (a0 := (n, .inl (fun _ => 0))) (fun cA => rfl) (by rw [i32_zero, i32_lt hRn (by omega)]; omega) (by rw [i32_nat hRn]; simp) (by show n * 4 ≤ 536870912; omega) hk1 hk2 (hd r hr) (fun q cA' H1 hK1 hP1 hD1 hS1 => ?_)
  have hcA : cA' = cA := by
    have g1 : s.vm.findClass ("[" ++ FieldType.int.toString) = some cA := (hSF.1.2 0 _ rfl).2
    have g2 : s.vm.findClass ("[" ++ FieldType.int.toString) = some cA' := (hK1.2 1 _ rfl).2
    exact Option.some.inj (g2.symm.trans g1)
  subst hcA
  intro T1 hT1 X1
  have hq : q = b0 + T.length := wl_fresh hP1 hD1 (by
    have g1 := stand_size X1
    rw [hT1] at g1
    simp only [List.length_cons] at hz
    omega)
  subst hq
  have hE : ent b0 b cA' (mzero M (T.length + 1)) (T.length + 1) (.inl n) = .inl (cA', n, .inl (fun _ => 0)) := by
    show Sum.inl (cA', n, Sum.inl _) = Sum.inl (cA', n, Sum.inl _)
    apply congrArg (fun g => Sum.inl (cA', n, Sum.inl g))
    funext j
    simp only [mzero, if_pos]
    decide +kernel
  rw [← hE] at hP1
  have hW1 := hW.push hP1
  exact k r hr l dC dI cA' b0 b N xs p e s m args below meth c H1 locs ls C hW1 hS1 (by simp only [List.length_cons, List.length_append, List.length_nil] at hz ⊢; omega) hL T1 hT1 X1
def dfv : List Fk → Nat → Value := fun fs j => match fs[j]? with
  | some none => .int 0
  | _ => .null
theorem A_new {d mc ms y : Nat} {Φ : Option Vl → Ly → Mm → Prop} {kc ks pc : Nat} {L : Lc} {st : List Vl} {S : Ly} {M : Mm} {o idx ci : Nat} {q : vw_C} {fs : List Fk} (hd : DC y pc (.new idx) 3) (ho : OC y o) (hn : lk1 idx (news o) = some ci) (hq : vwCl[ci]? = some q) (hfl : fs.length = q.2.2) (hfs : ∀ j, j < q.2.2 → (parseFieldDescriptor (q.2.1 j).2.2.1).map defaultValue = some (dfv fs j)) (hf2 : ∀ f ∈ fs, f = none ∨ f = some none) (hk1 : kc + 1 ≤ mc) (hk2 : ks + q.2.2 ≤ ms) (k : AJ d mc ms y Φ (kc + 1) (ks + q.2.2) (pc + 3) L (.inr S.length :: st) (S ++ [.inr (ci, fs)]) (mzero M S.length)) : AJ d mc ms y Φ kc ks pc L st S M := by
  intro r hr l dC dI cA b0 b N xs p e s m args below meth c H locs ls C hW hS hz hL
  obtain ⟨hx, hb, hrt, hml, hown, hts, hlk, hnm, hSF⟩ := id C
  obtain ⟨T, rfl, h3, h4, hP⟩ := id hW
  obtain ⟨C0, Tt, N0⟩ := q
  obtain ⟨ty0, hty, hnmz⟩ := cls_ok ci _ hq
  have hw := MW_N ho.1 (lk1_mem hn)
  unfold wN at hw
  rw [hq] at hw
  have hE : ent b0 b cA (mzero M (T.length + 1)) (T.length + 1) (.inr (ci, fs)) = .inr (ci, fs.mapIdx (fun j f => fv b0 b (mzero M (T.length + 1)) (T.length + 1) j f)) := rfl
  refine va_new (ci := ci) (fs := fs.mapIdx (fun j f => fv b0 b (mzero M (T.length + 1)) (T.length + 1) j f)) (C := C0) (T := Tt) (N := N0) hx hb hts (cls_in hq) ty0 hty (own_of ho hr hown) (hts _ (hw _ (by simp))) (hts _ (hw _ (by simp))) (hts _ (hw _ (by simp))) hSF.1 hP (wl_D b0 b cA T M) hS (fun q hq => Nat.le_trans hSF.2.2.2.2.1 hq) hq (fun j hj => ?_) hk1 hk2 (hd r hr) (fun q H1 hP1 hD1 hS1 => ?_)
  · have g1 := hfs j hj
    have g3 := hty j hj
    dsimp only at g1 g3
    rw [g3] at g1
    rw [Option.some.inj g1]
    unfold dfv vp_V
    have hjl : j < fs.length := by rw [hfl]; exact hj
    have g2 : fs[j]? = some fs[j] := List.getElem?_eq_getElem hjl
    rw [List.getD_eq_getElem?_getD, List.getElem?_mapIdx, g2]
    rcases hf2 fs[j] (List.getElem_mem hjl) with g | g
    · rw [g]; simp [fv, mzero]
    · rw [g]; rfl
  · intro T1 hT1 X1
    have hq : q = b0 + T.length := wl_fresh hP1 hD1 (by
      have g1 := stand_size X1
      rw [hT1] at g1
      simp only [List.length_cons] at hz
      omega)
    subst hq
    have hW1 := hW.push (sh := .inr (ci, fs)) (by rw [hE]; exact hP1)
    exact k r hr l dC dI cA b0 b N xs p e s m args below meth c H1 locs ls C hW1 hS1 (by simp only [List.length_cons, List.length_append, List.length_nil] at hz ⊢; omega) hL T1 hT1 X1
theorem WD.putR {dC : Nat → ClassId} {dI : Nat → Nat → Nat} {cA : ClassId} {b0 b N : Nat} {xs : Nat → Int32} {T : Ly} {M : Mm} {H H1 : Heap} {q : Nat} {ci kf rr : Nat} {fs : List Fk} (h : WD dC dI cA b0 b N xs (.inl N :: T) M H) (hT : T[q]? = some (.inr (ci, fs))) (hk : kf < fs.length)
    (hP : va_P (dC, dI) vwCl ((wl b0 b cA T M).set q (b0 + q, .inr (ci, (fs.mapIdx (fun j f => fv b0 b M (q + 1) j f)).set kf (.ref (adr b0 b rr))))) H1) : WD dC dI cA b0 b N xs (setF (.inl N :: T) (q + 1) kf (some (some rr))) M H1 := by
  obtain ⟨T', e1, h3, h4, h5⟩ := h
  cases e1
  have hs := setF_eq T q kf (some (some rr)) _ hT
  refine ⟨setF T q kf (some (some rr)), rfl, h3, h4, ?_⟩
  rw [hs]
  have hlt : q < T.length := (List.getElem?_eq_some_iff.mp hT).1
  have e : (wl b0 b cA T M).set q (b0 + q, .inr (ci, (fs.mapIdx (fun j f => fv b0 b M (q + 1) j f)).set kf (.ref (adr b0 b rr)))) = wl b0 b cA (T.set q (.inr (ci, fs.set kf (some (some rr))))) M := by
    apply List.ext_getElem?
    intro k
    rw [wl_get, List.getElem?_set, List.getElem?_set]
    by_cases hkq : q = k
    · subst hkq
      rw [if_pos rfl, if_pos rfl, if_pos (by simpa [wl] using hlt), if_pos hlt]
      simp only [Option.map_some, ent]
      congr 4
      apply List.ext_getElem?
      intro j
      rw [List.getElem?_set, List.getElem?_mapIdx, List.getElem?_mapIdx, List.getElem?_set]
      by_cases hj : kf = j
      · subst hj
        rw [if_pos rfl, if_pos rfl, if_pos (by simpa using hk), if_pos hk]
        rfl
      · rw [if_neg hj, if_neg hj]
    · rw [if_neg hkq, if_neg hkq, wl_get]
  rw [← e]; exact hP
theorem A_putR {d mc ms y : Nat} {Φ : Option Vl → Ly → Mm → Prop} {kc ks pc : Nat} {L : Lc} {st : List Vl} {S : Ly} {M : Mm} {o idx a ci kf tk rr : Nat} {kI : Int} {fs : List Fk} (hd : DC y pc (.putfield idx) 3) (ho : OC y o) (hf : lk1 idx (flds o) = some (ci, kf, kI, true, tk)) (hs : shp S a = some (.inr (ci, fs))) (hkl : kf < fs.length) (htk : tk = 2) (hfi : o = ci ∧ ∀ r : MRec, mtb[y]? = some r → r.1.name = "<init>") (k : AJ d mc ms y Φ kc ks (pc + 3) L st (setF S a kf (some (some rr))) M) : AJ d mc ms y Φ kc ks pc L (.inr rr :: .inr a :: st) S M := by
  intro r hr l dC dI cA b0 b N xs p e s m args below meth c H locs ls C hW hS hz hL
  obtain ⟨hx, hb, hrt, hml, hown, hts, hlk, hnm, hSF⟩ := id C
  obtain ⟨T, q, rfl, rfl, hT, hP, he⟩ := hW.cell hs (hW.obj hs)
  obtain ⟨C0, Tt, N0, ty, hc, hkN, hl, hfin, hpd, hkd, hC, hkI⟩ := fld_ok ho.1 (lk1_mem hf)
  obtain ⟨ty0, hty, hnmz⟩ := cls_ok ci _ hc
  have hn : narrow ty (.ref (adr b0 b rr)) = .ref (adr b0 b rr) ∧ fits ty (.ref (adr b0 b rr)) = true := by
    cases ty with
    | object _ => exact ⟨rfl, rfl⟩
    | array _ => exact ⟨rfl, rfl⟩
    | _ => exact absurd hkd (by intro h; simp [kdf] at h; omega)
  obtain ⟨hoc, hini⟩ := hfi
  subst hoc
  refine va_putF (D := (dC, dI)) (ci := o) (C := C0) (T := Tt) (N := N0) hx hb hts (cls_in hc) ty0 hty hnmz (own_of ho hr hown) hSF.1 hP (wl_D b0 b cA T M) hS q he hc kf hkN (hts _ hl) (fun _ h9 => h9) hfin (hnm (hini r hr)) (by rw [hC]; exact (cnm_ok o _ hc).symm) (ty := ty) (v := .ref (adr b0 b rr)) hpd hn.1 hn.2 (by simpa using hkl) (hd r hr) (fun H1 locs1 hP1 _ hS1 => ?_)
  refine k r hr l dC dI cA b0 b N xs p e s m args below meth c H1 locs1 ls C (hW.putR hT hkl hP1) hS1 ?_ hL
  have hs2 := setF_eq T q kf (some (some rr)) _ hT
  show _ = b0 + (Sum.inl N :: setF T q kf (some (some rr))).length
  rw [hs2]
  simpa using hz
/-! ===== wp: the rows by program ===== -/
abbrev En : Type := Nat × Instr × Nat × List (Int × Nat)
def CL (d y : Nat) (as : List Vl) (S : Ly) (M : Mm) (K : Option Vl → Ly → Mm → Prop) : Prop :=
  ∃ (d' : Nat) (Φ' : Option Vl → Ly → Mm → Prop), d' + 1 ≤ d ∧ Ret d' 0 0 y as S M Φ' ∧ ∀ (r : Option Vl) (S' : Ly) (M' : Mm), Φ' r S' M' → MOk M' → K r S' M'
def iln : Instr → Nat
  | .aload_n _ => 1 | .iload_n _ => 1 | .astore_n _ => 1 | .istore_n _ => 1 | .aload _ => 2 | .iload _ => 2 | .astore _ => 2 | .istore _ => 2
  | .iinc _ _ => 3 | .iconst _ => 1 | .bipush _ => 2 | .sipush _ => 3 | .ldc _ => 2 | .iadd => 1 | .isub => 1 | .imul => 1 | .ineg => 1 | .iand => 1 | .ishl => 1 | .ishr => 1
  | .idiv => 1 | .irem => 1 | .dup => 1 | .getfield _ => 3 | .putfield _ => 3 | .iaload => 1 | .iastore => 1 | .arraylength => 1 | .goto _ => 3 | .ifCond _ _ => 3 | .if_icmp _ _ => 3
  | .ireturn => 1 | .areturn => 1 | .return_ => 1 | .invokevirtual _ => 3 | .invokestatic _ => 3 | .invokespecial _ => 3 | .new _ => 3 | .newarray _ => 2 | _ => 0
def chk (nL pc : Nat) (ax : List (Int × Nat)) : Instr → Bool
  | .istore_n k => Nat.blt k.val nL
  | .astore_n k => Nat.blt k.val nL
  | .istore k => Nat.blt k nL
  | .astore k => Nat.blt k nL
  | .iinc k _ => Nat.blt k nL
  | .bipush n => decide (-128 ≤ n) && decide (n ≤ 127)
  | .sipush n => decide (-32768 ≤ n) && decide (n ≤ 32767)
  | .goto off => match ax with | (_, t) :: _ => decide ((pc : Int) + off = (t : Int)) | _ => false
  | .ifCond _ off => match ax with | (_, t) :: _ => decide ((pc : Int) + off = (t : Int)) | _ => false
  | .if_icmp _ off => match ax with | (_, t) :: _ => decide ((pc : Int) + off = (t : Int)) | _ => false
  | .tableswitch dd lo hi offs => match ax with
    | (_, t) :: tl => decide ((pc : Int) + dd = (t : Int)) && decide (hi + 1 = lo + offs.size) && (List.range offs.size).all (fun j => match offs[j]?, tl[j]? with
      | some o1, some (v, t) => decide ((pc : Int) + o1 = (t : Int)) && decide (v = lo + j)
      | _, _ => false)
    | _ => false
  | _ => true
def isTs : Instr → Bool
  | .tableswitch .. => true
  | _ => false
def okE (cc : ByteArray) (nL : Nat) (e : En) : Bool := decide (decode cc e.1 = .ok (e.2.1, e.2.2.1 - e.1)) && (isTs e.2.1 || decide (e.2.2.1 = e.1 + iln e.2.1)) && chk nL e.1 e.2.2.2 e.2.1
def MO (y o : Nat) (isI : Bool) (rt : Option FieldType) (P : List En) : Prop := ∃ r : MRec, mtb[y]? = some r ∧ r.2.2.2.2.2 = o ∧ o < nCl ∧ r.2.2.2.1 = rt ∧ (isI = true → r.1.name = "<init>") ∧ P.all (okE r.2.1 r.2.2.1) = true
def okPut (isI fin : Bool) (o ci tk : Nat) (x : Int) : Prop := match tk with
  | 0 => (bif fin then (bif isI && Nat.beq o ci then True else False) else True)
  | 1 => (x = 0 ∨ x = 1) ∧ (bif fin then (bif isI && Nat.beq o ci then True else False) else True)
  | _ => False
def stp (d y o : Nat) (isI fin : Bool) (rt : Option FieldType) (Φ : Option Vl → Ly → Mm → Prop) (i : Instr) (nx : Nat) (ax : List (Int × Nat)) (L : Lc) (st : List Vl) (S : Ly) (M : Mm) (K : Nat → Lc → List Vl → Ly → Mm → Prop) : Prop :=
  match i with
  | .iload_n k => match getL L k.val with | some (.inl x) => K nx L (.inl x :: st) S M | _ => False
  | .iload k => match getL L k with | some (.inl x) => K nx L (.inl x :: st) S M | _ => False
  | .aload_n k => match getL L k.val with | some (.inr x) => K nx L (.inr x :: st) S M | _ => False
  | .aload k => match getL L k with | some (.inr x) => K nx L (.inr x :: st) S M | _ => False
  | .istore_n k => match st with | .inl x :: st' => setK k.val L (.inl x) (fun L' => K nx L' st' S M) | _ => False
  | .istore k => match st with | .inl x :: st' => setK k L (.inl x) (fun L' => K nx L' st' S M) | _ => False
  | .astore_n k => match st with | .inr x :: st' => setK k.val L (.inr x) (fun L' => K nx L' st' S M) | _ => False
  | .astore k => match st with | .inr x :: st' => setK k L (.inr x) (fun L' => K nx L' st' S M) | _ => False
  | .iinc k n => match getL L k with | some (.inl x) => setK k L (.inl (x + n)) (fun L' => K nx L' st S M) | _ => False
  | .iconst n => K nx L (.inl n :: st) S M
  | .bipush n => K nx L (.inl n :: st) S M
  | .sipush n => K nx L (.inl n :: st) S M
  | .ldc idx => match lk1 idx (consts o) with | some v => K nx L (.inl v :: st) S M | none => False
  | .iadd => match st with | .inl z :: .inl x :: st' => K nx L (.inl (x + z) :: st') S M | _ => False
  | .isub => match st with | .inl z :: .inl x :: st' => K nx L (.inl (x - z) :: st') S M | _ => False
  | .imul => match st with | .inl z :: .inl x :: st' => K nx L (.inl (x * z) :: st') S M | _ => False
  | .ineg => match st with | .inl x :: st' => K nx L (.inl (-x) :: st') S M | _ => False
  | .iand => match st with | .inl z :: .inl x :: st' => K nx L (.inl (andI x z) :: st') S M | _ => False
  | .ishl => match st with | .inl z :: .inl x :: st' => K nx L (.inl (shlI x z) :: st') S M | _ => False
  | .ishr => match st with | .inl z :: .inl x :: st' => K nx L (.inl (shrI x z) :: st') S M | _ => False
  | .idiv => match st with | .inl z :: .inl x :: st' => (R32 z ∧ z ≠ 0) ∧ K nx L (.inl (divI x z) :: st') S M | _ => False
  | .irem => match st with | .inl z :: .inl x :: st' => (R32 z ∧ z ≠ 0) ∧ K nx L (.inl (remI x z) :: st') S M | _ => False
  | .dup => match st with | v :: st' => K nx L (v :: v :: st') S M | _ => False
  | .getfield idx => match st with
    | .inr a :: st' => match lk1 idx (flds o) with
      | some (ci, k, kI, _, _) => match shp S a with
        | some (.inr (ci', fs)) => bif Nat.beq ci' ci then (match shf fs k with
          | some none => K nx L (.inl (M a kI) :: st') S M
          | some (some (some rr)) => K nx L (.inr rr :: st') S M
          | _ => False) else False
        | _ => False
      | none => False
    | _ => False
  | .putfield idx => match st with
    | .inl x :: .inr a :: st' => match lk1 idx (flds o) with
      | some (ci, k, kI, fn, tk) => match shp S a with
        | some (.inr (ci', fs)) => bif Nat.beq ci' ci then (match shf fs k with
          | some none => (R32 x ∧ okPut isI fn o ci tk x) ∧ K nx L st' S (mset M a kI x)
          | _ => False) else False
        | _ => False
      | none => False
    | .inr rr :: .inr a :: st' => match lk1 idx (flds o) with
      | some (ci, k, _, true, 2) => match shp S a with
        | some (.inr (ci', fs)) => bif Nat.beq ci' ci && (isI && Nat.beq o ci) && Nat.blt k fs.length then K nx L st' (setF S a k (some (some rr))) M else False
        | _ => False
      | _ => False
    | _ => False
  | .iaload => match st with
    | .inl j :: .inr a :: st' => match shp S a with | some (.inl n) => (0 ≤ j ∧ j < (n : Int) ∧ R32 j) ∧ K nx L (.inl (M a j) :: st') S M | _ => False
    | _ => False
  | .iastore => match st with
    | .inl x :: .inl j :: .inr a :: st' => match shp S a with | some (.inl n) => (a ≠ 0 ∧ 0 ≤ j ∧ j < (n : Int) ∧ R32 j ∧ R32 x) ∧ K nx L st' S (mset M a j x) | _ => False
    | _ => False
  | .arraylength => match st with
    | .inr a :: st' => match shp S a with | some (.inl n) => K nx L (.inl (n : Int) :: st') S M | _ => False
    | _ => False
  | .goto _ => match ax with | (_, t) :: _ => K t L st S M | _ => False
  | .ifCond c _ => match st, ax with | .inl x :: st', (_, t) :: _ => R32 x ∧ brn c x 0 (K t L st' S M) (K nx L st' S M) | _, _ => False
  | .if_icmp c _ => match st, ax with | .inl z :: .inl x :: st', (_, t) :: _ => (R32 x ∧ R32 z) ∧ brn c x z (K t L st' S M) (K nx L st' S M) | _, _ => False
  | .tableswitch _ lo hi _ => match st, ax with | .inl x :: st', (_, t) :: tl => R32 x ∧ ((x < lo ∨ hi < x) → K t L st' S M) ∧ swK x tl (fun t => K t L st' S M) | _, _ => False
  | .ireturn => bif fin then (match st with
    | [.inl x] => match rt with
      | some .int => Φ (some (.inl x)) S M
      | some .boolean => (x = 0 ∨ x = 1) ∧ Φ (some (.inl x)) S M
      | _ => False
    | _ => False) else False
  | .areturn => bif fin then (match st with
    | [.inr a] => match rt with
      | some (.object _) => Φ (some (.inr a)) S M
      | _ => False
    | _ => False) else False
  | .return_ => bif fin then (match st with
    | [] => match rt with
      | none => Φ none S M
      | _ => False
    | _ => False) else False
  | .invokevirtual idx => match lk1 idx (calls o) with
    | some (y', np, false, false, false, cl) => popK np st [] (fun as rest => match as with
      | .inr a :: _ => match shp S a with
        | some (.inr (ci, _)) => bif Nat.beq ci cl && Nat.ble rest.length 8 then CL d y' as S M (fun r S' M' => K nx L (pushO r rest) S' M') else False
        | _ => False
      | _ => False)
    | _ => False
  | .invokestatic idx => match lk1 idx (maths o) with
    | some 0 => match st with | .inl x :: st' => bif Nat.ble st'.length 8 && Nat.ble 1 d then R32 x ∧ K nx L (.inl (x.natAbs : Int) :: st') S M else False | _ => False
    | some 1 => match st with | .inl z :: .inl x :: st' => bif Nat.ble st'.length 8 && Nat.ble 1 d then (R32 x ∧ R32 z) ∧ K nx L (.inl (min x z) :: st') S M else False | _ => False
    | some 2 => match st with | .inl z :: .inl x :: st' => bif Nat.ble st'.length 8 && Nat.ble 1 d then (R32 x ∧ R32 z) ∧ K nx L (.inl (max x z) :: st') S M else False | _ => False
    | some _ => False
    | none => match lk1 idx (calls o) with
      | some (y', np, true, _, _, _) => popK np st [] (fun as rest => bif Nat.ble rest.length 8 then CL d y' as S M (fun r S' M' => K nx L (pushO r rest) S' M') else False)
      | _ => False
  | .invokespecial idx => bif memb (objs o) idx && Nat.ble 1 d then (match st with | .inr _ :: st' => bif Nat.ble st'.length 8 then K nx L st' S M else False | _ => False) else False
  | _ => False
def wp (d mc ms kc ks y o : Nat) (isI fin : Bool) (rt : Option FieldType) (Φ : Option Vl → Ly → Mm → Prop) (P : List En) (sp : List Nat) : Nat → Nat → Lc → List Vl → Ly → Mm → Prop
  | 0, pc, L, st, S, M => AJ d mc ms y Φ kc ks pc L st S M
  | n + 1, pc, L, st, S, M => match lk1 pc P with
    | none => False
    | some (i, nx, ax) => stp d y o isI fin rt Φ i nx ax L st S M (fun pc' L' st' S' M' => bif memb sp pc' then AJ d mc ms y Φ kc ks pc' L' st' S' M' else wp d mc ms kc ks y o isI fin rt Φ P sp n pc' L' st' S' M')
theorem popK_spec : ∀ (n : Nat) (st acc : List Vl) (k : List Vl → List Vl → Prop), popK n st acc k → ∃ as rest, as.length = n + acc.length ∧ acc.reverse ++ st = as.reverse ++ rest ∧ k as rest := by
  intro n
  induction n with
  | zero => intro st acc k h; exact ⟨acc, st, by simp, rfl, h⟩
  | succ n ih =>
    intro st acc k h
    cases st with
    | nil => cases h
    | cons v t =>
      obtain ⟨as, rest, h1, h2, h3⟩ := ih t (v :: acc) k h
      refine ⟨as, rest, by rw [h1]; simp; omega, ?_, h3⟩
      rw [← h2]; simp
theorem swK_spec {x : Int} {k : Nat → Prop} : ∀ {tl : List (Int × Nat)}, swK x tl k → ∀ (v : Int) (t : Nat), (v, t) ∈ tl → x = v → k t := by
  intro tl
  induction tl with
  | nil => intro _ v t h; cases h
  | cons p l ih =>
    obtain ⟨a, b⟩ := p
    intro h v t hm hx
    rcases List.mem_cons.mp hm with e | e
    · cases e; exact h.1 hx
    · exact ih h.2 v t e hx
