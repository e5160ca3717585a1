/-! THE ABSTRACT MACHINE: values without addresses, a store by families of cells, a verification condition for each instruction -/
abbrev qV : Type := Int32 ⊕ Int64 ⊕ (Nat × Nat)
abbrev qLs : Type := List (Option qV)
abbrev qSt : Type := (Nat → Nat → Nat → Int32) × (Nat → Nat → Nat → Int64) × (Nat → Nat → Nat → Nat)
def q_I (S : qSt) (f i j : Nat) : Int32 := S.1 f i j
def q_L (S : qSt) (f i j : Nat) : Int64 := S.2.1 f i j
def q_M (S : qSt) (f i j : Nat) : Nat := S.2.2 f i j
def q_wI (S : qSt) (f i j : Nat) (v : Int32) : qSt := (fun a b c => if a = f ∧ b = i ∧ c = j then v else S.1 a b c, S.2)
def q_wL (S : qSt) (f i j : Nat) (v : Int64) : qSt := (S.1, fun a b c => if a = f ∧ b = i ∧ c = j then v else S.2.1 a b c, S.2.2)
def q_wM (S : qSt) (f i j : Nat) (v : Nat) : qSt := (S.1, S.2.1, fun a b c => if a = f ∧ b = i ∧ c = j then v else S.2.2 a b c)
theorem q_I_wI (S : qSt) (f i j a b c : Nat) (v : Int32) : q_I (q_wI S f i j v) a b c = if a = f ∧ b = i ∧ c = j then v else q_I S a b c := rfl
theorem q_I_wL (S : qSt) (f i j a b c : Nat) (v : Int64) : q_I (q_wL S f i j v) a b c = q_I S a b c := rfl
theorem q_I_wM (S : qSt) (f i j a b c : Nat) (v : Nat) : q_I (q_wM S f i j v) a b c = q_I S a b c := rfl
theorem q_L_wL (S : qSt) (f i j a b c : Nat) (v : Int64) : q_L (q_wL S f i j v) a b c = if a = f ∧ b = i ∧ c = j then v else q_L S a b c := rfl
theorem q_L_wI (S : qSt) (f i j a b c : Nat) (v : Int32) : q_L (q_wI S f i j v) a b c = q_L S a b c := rfl
theorem q_L_wM (S : qSt) (f i j a b c : Nat) (v : Nat) : q_L (q_wM S f i j v) a b c = q_L S a b c := rfl
theorem q_M_wM (S : qSt) (f i j a b c : Nat) (v : Nat) : q_M (q_wM S f i j v) a b c = if a = f ∧ b = i ∧ c = j then v else q_M S a b c := rfl
theorem q_M_wI (S : qSt) (f i j a b c : Nat) (v : Int32) : q_M (q_wI S f i j v) a b c = q_M S a b c := rfl
theorem q_M_wL (S : qSt) (f i j a b c : Nat) (v : Int64) : q_M (q_wL S f i j v) a b c = q_M S a b c := rfl
/-- locals -/
def q_get : qLs → Nat → Option qV
  | [], _ => none
  | x :: _, 0 => x
  | _ :: xs, n + 1 => q_get xs n
def q_nl : Option qV → Option qV
  | some (.inr (.inl _)) => none
  | x => x
def q_put : qLs → Nat → Option qV → qLs
  | [], _, _ => []
  | _ :: xs, 0, v => v :: xs
  | x :: xs, 1, v => q_nl x :: q_put xs 0 v
  | x :: xs, n + 2, v => x :: q_put xs (n + 1) v
def q_ldI (o : Option qV) (k : qV → Prop) : Prop := match o with
  | some (.inl x) => k (.inl x)
  | _ => False
def q_ldL (o : Option qV) (k : qV → Prop) : Prop := match o with
  | some (.inr (.inl x)) => k (.inr (.inl x))
  | _ => False
def q_ldR (o : Option qV) (k : qV → Prop) : Prop := match o with
  | some (.inr (.inr x)) => k (.inr (.inr x))
  | _ => False
def q_inc (o : Option qV) (z : Int32) (k : qV → Prop) : Prop := match o with
  | some (.inl x) => k (.inl (x + z))
  | _ => False
def q_bin (a : Nat) (x y : Int32) : Int32 := match a with
  | 0 => x + y
  | 1 => x - y
  | 2 => x * y
  | 3 => x &&& y
  | 4 => x ||| y
  | 5 => x ^^^ y
  | 6 => x <<< (y &&& 31)
  | 7 => x >>> (y &&& 31)
  | _ => (x.toUInt32 >>> (y.toUInt32 &&& Int32.toUInt32 31)).toInt32
def q_binL (a : Nat) (x y : Int64) : Int64 := match a with
  | 0 => x + y
  | 1 => x - y
  | 2 => x * y
  | 3 => x &&& y
  | 4 => x ||| y
  | _ => x ^^^ y
def q_shL (a : Nat) (x : Int64) (y : Int32) : Int64 := match a with
  | 0 => x <<< (y.toInt64 &&& 63)
  | 1 => x >>> (y.toInt64 &&& 63)
  | _ => (x.toUInt64 >>> (y.toInt64.toUInt64 &&& Int64.toUInt64 63)).toInt64
/-- a branch: jump A, go on B -/
def q_if (a : Nat) (x y : Int32) (A B : Prop) : Prop := match a with
  | 0 => (x = y → A) ∧ (¬ x = y → B)
  | 1 => (¬ x = y → A) ∧ (x = y → B)
  | 2 => (x < y → A) ∧ (¬ x < y → B)
  | 3 => (y ≤ x → A) ∧ (¬ y ≤ x → B)
  | 4 => (y < x → A) ∧ (¬ y < x → B)
  | _ => (x ≤ y → A) ∧ (¬ x ≤ y → B)
def q_sw (x : Int32) (J : Nat → Prop) (d : Nat) : List (Int32 × Nat) → Prop
  | [] => J d
  | (k, b) :: r => (x = k → J b) ∧ (¬ x = k → q_sw x J d r)
/-- families: an object (class, fields) or an array (kind, length, target) -/
abbrev qF : Type := (Nat × List (Nat × Nat × Nat × Nat)) ⊕ (Nat × Nat × Nat × Nat × Nat)
def q_fam (f : Nat) : qF := match f with
  | 0 => .inl (9, [(3, 1, 0, 0), (4, 3, 0, 0), (4, 3, 0, 0), (4, 12, 0, 0), (4, 12, 0, 0), (4, 16, 0, 0), (4, 16, 0, 0), (3, 18, 0, 0), (3, 24, 0, 0), (3, 28, 0, 0), (3, 29, 0, 0), (3, 33, 0, 0), (0, 0, 0, 0), (0, 0, 0, 0), (0, 0, 0, 0), (0, 0, 0, 0)])
  | 1 => .inl (4, [(3, 2, 0, 0), (0, 0, 0, 0), (0, 0, 0, 0), (0, 0, 0, 0), (0, 0, 0, 0), (0, 0, 0, 0), (0, 0, 0, 0)])
  | 2 => .inr (1, 600, 0, 0, 0)
  | 3 => .inl (8, [(0, 0, 0, 0), (0, 0, 0, 0), (0, 0, 0, 0), (3, 4, 0, 1), (3, 5, 0, 1), (3, 6, 0, 1), (3, 7, 0, 1), (3, 8, 0, 1), (3, 9, 0, 1), (3, 10, 0, 1), (3, 11, 0, 1)])
  | 4 => .inr (0, 3, 0, 0, 0)
  | 5 => .inr (0, 6, 0, 0, 0)
  | 6 => .inr (0, 6, 0, 0, 0)
  | 7 => .inr (0, 6, 0, 0, 0)
  | 8 => .inr (0, 6, 0, 0, 0)
  | 9 => .inr (0, 6, 0, 0, 0)
  | 10 => .inr (0, 6, 0, 0, 0)
  | 11 => .inr (0, 6, 0, 0, 0)
  | 12 => .inl (1, [(3, 13, 0, 1), (3, 14, 0, 1), (3, 15, 0, 1), (0, 0, 0, 0)])
  | 13 => .inr (0, 160, 0, 0, 0)
  | 14 => .inr (0, 160, 0, 0, 0)
  | 15 => .inr (0, 8, 0, 0, 0)
  | 16 => .inl (6, [(0, 0, 0, 0), (0, 0, 0, 0), (0, 0, 0, 0), (3, 17, 0, 1), (0, 0, 0, 0)])
  | 17 => .inr (0, 12, 0, 0, 0)
  | 18 => .inl (7, [(3, 19, 0, 0), (3, 20, 0, 0), (3, 21, 0, 0), (3, 22, 0, 0), (3, 23, 0, 0), (0, 0, 0, 0), (0, 0, 0, 0), (0, 0, 0, 0)])
  | 19 => .inr (0, 150, 0, 0, 0)
  | 20 => .inr (0, 150, 0, 0, 0)
  | 21 => .inr (0, 150, 0, 0, 0)
  | 22 => .inr (0, 150, 0, 0, 0)
  | 23 => .inr (0, 150, 0, 0, 0)
  | 24 => .inl (2, [(3, 25, 0, 1), (0, 0, 0, 0)])
  | 25 => .inr (3, 17, 26, 0, 17)
  | 26 => .inl (3, [(1, 0, 0, 0), (0, 0, 0, 0), (3, 27, 0, 1)])
  | 27 => .inr (0, 6, 0, 0, 0)
  | 28 => .inr (3, 3, 24, 1, 0)
  | 29 => .inl (5, [(3, 30, 0, 0), (3, 31, 0, 0), (3, 32, 0, 0), (0, 0, 0, 0), (0, 0, 0, 0), (4, 3, 0, 0), (0, 0, 0, 0), (0, 0, 0, 0), (0, 0, 0, 0), (2, 0, 0, 0), (0, 0, 0, 0), (0, 0, 0, 0)])
  | 30 => .inr (2, 20000, 0, 0, 0)
  | 31 => .inr (1, 20000, 0, 0, 0)
  | 32 => .inr (0, 32768, 0, 0, 0)
  | 33 => .inl (0, [(0, 0, 0, 0), (1, 0, 0, 0), (0, 0, 0, 0), (0, 0, 0, 0)])
  | 40 => .inl (10, [(0, 0, 0, 0), (0, 0, 0, 0), (0, 0, 0, 0), (0, 0, 0, 0), (0, 0, 0, 0), (0, 0, 0, 0), (0, 0, 0, 0), (0, 0, 0, 0), (0, 0, 0, 0), (3, 41, 0, 0), (3, 42, 0, 0), (3, 43, 0, 0), (3, 44, 0, 0), (3, 45, 0, 0), (3, 46, 0, 0), (3, 47, 0, 0), (3, 48, 0, 0), (3, 49, 0, 0), (3, 51, 0, 0), (0, 0, 0, 0), (0, 0, 0, 0), (3, 53, 0, 0), (3, 55, 0, 0), (3, 57, 0, 0), (3, 59, 0, 0), (3, 61, 0, 0), (3, 62, 0, 0), (3, 63, 0, 0), (0, 0, 0, 0), (3, 65, 0, 0), (3, 65, 1, 0), (3, 66, 0, 0), (3, 67, 0, 0), (0, 0, 0, 0), (0, 0, 0, 0), (0, 0, 0, 0), (0, 0, 0, 0), (0, 0, 0, 0), (0, 0, 0, 0), (0, 0, 0, 0), (3, 69, 0, 0), (3, 70, 0, 0), (3, 71, 0, 0), (3, 72, 0, 0), (3, 65, 2, 0), (3, 65, 3, 0), (0, 0, 0, 0), (0, 0, 0, 0), (0, 0, 0, 0), (0, 0, 0, 0), (0, 0, 0, 0), (0, 0, 0, 0), (0, 0, 0, 0)])
  | 41 => .inr (0, 600, 0, 0, 0)
  | 42 => .inr (0, 2, 0, 0, 0)
  | 43 => .inr (0, 3, 0, 0, 0)
  | 44 => .inr (0, 3, 0, 0, 0)
  | 45 => .inr (0, 3, 0, 0, 0)
  | 46 => .inr (0, 3, 0, 0, 0)
  | 47 => .inr (0, 6, 0, 0, 0)
  | 48 => .inr (0, 6, 0, 0, 0)
  | 49 => .inr (3, 6, 50, 0, 0)
  | 50 => .inr (0, 3, 0, 0, 0)
  | 51 => .inr (3, 6, 52, 0, 0)
  | 52 => .inr (0, 3, 0, 0, 0)
  | 53 => .inr (3, 160, 54, 0, 0)
  | 54 => .inr (0, 2, 0, 0, 0)
  | 55 => .inr (3, 160, 56, 0, 0)
  | 56 => .inr (0, 2, 0, 0, 0)
  | 57 => .inr (3, 12, 58, 0, 0)
  | 58 => .inr (0, 3, 0, 0, 0)
  | 59 => .inr (3, 12, 60, 0, 0)
  | 60 => .inr (0, 3, 0, 0, 0)
  | 61 => .inr (0, 160, 0, 0, 0)
  | 62 => .inr (0, 8, 0, 0, 0)
  | 63 => .inr (3, 80, 64, 0, 0)
  | 64 => .inr (0, 5, 0, 0, 0)
  | 65 => .inr (0, 29, 0, 0, 0)
  | 66 => .inr (3, 16, 65, 4, 0)
  | 67 => .inr (3, 3, 68, 0, 0)
  | 68 => .inr (0, 494, 0, 0, 0)
  | 69 => .inr (0, 40500, 0, 0, 0)
  | 70 => .inr (0, 40500, 0, 0, 0)
  | 71 => .inr (0, 40500, 0, 0, 0)
  | 72 => .inr (0, 6, 0, 0, 0)
  | 80 => .inr (2, 1, 0, 0, 0)
  | _ => .inr (9, 0, 0, 0, 0)
def q_cnt (f : Nat) : Nat := match f with
  | 0 => 1
  | 1 => 1
  | 2 => 1
  | 3 => 3
  | 4 => 3
  | 5 => 3
  | 6 => 3
  | 7 => 3
  | 8 => 3
  | 9 => 3
  | 10 => 3
  | 11 => 3
  | 12 => 2
  | 13 => 2
  | 14 => 2
  | 15 => 2
  | 16 => 2
  | 17 => 2
  | 18 => 1
  | 19 => 1
  | 20 => 1
  | 21 => 1
  | 22 => 1
  | 23 => 1
  | 24 => 4
  | 25 => 4
  | 26 => 68
  | 27 => 68
  | 28 => 1
  | 29 => 1
  | 30 => 1
  | 31 => 1
  | 32 => 1
  | 33 => 1
  | 40 => 1
  | 41 => 1
  | 42 => 1
  | 43 => 1
  | 44 => 1
  | 45 => 1
  | 46 => 1
  | 47 => 1
  | 48 => 1
  | 49 => 1
  | 50 => 6
  | 51 => 1
  | 52 => 6
  | 53 => 1
  | 54 => 160
  | 55 => 1
  | 56 => 160
  | 57 => 1
  | 58 => 12
  | 59 => 1
  | 60 => 12
  | 61 => 1
  | 62 => 1
  | 63 => 1
  | 64 => 80
  | 65 => 20
  | 66 => 1
  | 67 => 1
  | 68 => 3
  | 69 => 1
  | 70 => 1
  | 71 => 1
  | 72 => 1
  | 80 => 1
  | _ => 0
def q_aty (f : Nat) : FieldType := match f with
  | 2 => .byte
  | 25 => (.object "BlockedCars$Position")
  | 28 => (.object "BlockedCars$Past")
  | 30 => .long
  | 31 => .byte
  | 49 => (.array .int)
  | 51 => (.array .int)
  | 53 => (.array .int)
  | 55 => (.array .int)
  | 57 => (.array .int)
  | 59 => (.array .int)
  | 63 => (.array .int)
  | 66 => (.array .int)
  | 67 => (.array .int)
  | 80 => .long
  | _ => .int
def q_ak (f : Nat) : Nat := match q_fam f with | .inr (k, _) => k | .inl _ => 9
def q_al (f : Nat) : Nat := match q_fam f with | .inr (_, n, _) => n | .inl _ => 0
theorem q_aks : q_ak 2 = 1 ∧ q_ak 4 = 0 ∧ q_ak 5 = 0 ∧ q_ak 6 = 0 ∧ q_ak 7 = 0 ∧ q_ak 8 = 0 ∧ q_ak 9 = 0 ∧ q_ak 10 = 0 ∧ q_ak 11 = 0 ∧ q_ak 13 = 0 ∧ q_ak 14 = 0 ∧ q_ak 15 = 0 ∧ q_ak 17 = 0 ∧ q_ak 19 = 0 ∧ q_ak 20 = 0 ∧ q_ak 21 = 0 ∧ q_ak 22 = 0 ∧ q_ak 23 = 0 ∧ q_ak 25 = 3 ∧ q_ak 27 = 0 ∧ q_ak 28 = 3 ∧ q_ak 30 = 2 ∧ q_ak 31 = 1 ∧ q_ak 32 = 0 ∧ q_ak 41 = 0 ∧ q_ak 42 = 0 ∧ q_ak 43 = 0 ∧ q_ak 44 = 0 ∧ q_ak 45 = 0 ∧ q_ak 46 = 0 ∧ q_ak 47 = 0 ∧ q_ak 48 = 0 ∧ q_ak 49 = 3 ∧ q_ak 50 = 0 ∧ q_ak 51 = 3 ∧ q_ak 52 = 0 ∧ q_ak 53 = 3 ∧ q_ak 54 = 0 ∧ q_ak 55 = 3 ∧ q_ak 56 = 0 ∧ q_ak 57 = 3 ∧ q_ak 58 = 0 ∧ q_ak 59 = 3 ∧ q_ak 60 = 0 ∧ q_ak 61 = 0 ∧ q_ak 62 = 0 ∧ q_ak 63 = 3 ∧ q_ak 64 = 0 ∧ q_ak 65 = 0 ∧ q_ak 66 = 3 ∧ q_ak 67 = 3 ∧ q_ak 68 = 0 ∧ q_ak 69 = 0 ∧ q_ak 70 = 0 ∧ q_ak 71 = 0 ∧ q_ak 72 = 0 ∧ q_ak 80 = 2 := ⟨rfl, rfl, rfl, rfl, rfl, rfl, rfl, rfl, rfl, rfl, rfl, rfl, rfl, rfl, rfl, rfl, rfl, rfl, rfl, rfl, rfl, rfl, rfl, rfl, rfl, rfl, rfl, rfl, rfl, rfl, rfl, rfl, rfl, rfl, rfl, rfl, rfl, rfl, rfl, rfl, rfl, rfl, rfl, rfl, rfl, rfl, rfl, rfl, rfl, rfl, rfl, rfl, rfl, rfl, rfl, rfl, rfl⟩
theorem q_als : q_al 2 = 600 ∧ q_al 4 = 3 ∧ q_al 5 = 6 ∧ q_al 6 = 6 ∧ q_al 7 = 6 ∧ q_al 8 = 6 ∧ q_al 9 = 6 ∧ q_al 10 = 6 ∧ q_al 11 = 6 ∧ q_al 13 = 160 ∧ q_al 14 = 160 ∧ q_al 15 = 8 ∧ q_al 17 = 12 ∧ q_al 19 = 150 ∧ q_al 20 = 150 ∧ q_al 21 = 150 ∧ q_al 22 = 150 ∧ q_al 23 = 150 ∧ q_al 25 = 17 ∧ q_al 27 = 6 ∧ q_al 28 = 3 ∧ q_al 30 = 20000 ∧ q_al 31 = 20000 ∧ q_al 32 = 32768 ∧ q_al 41 = 600 ∧ q_al 42 = 2 ∧ q_al 43 = 3 ∧ q_al 44 = 3 ∧ q_al 45 = 3 ∧ q_al 46 = 3 ∧ q_al 47 = 6 ∧ q_al 48 = 6 ∧ q_al 49 = 6 ∧ q_al 50 = 3 ∧ q_al 51 = 6 ∧ q_al 52 = 3 ∧ q_al 53 = 160 ∧ q_al 54 = 2 ∧ q_al 55 = 160 ∧ q_al 56 = 2 ∧ q_al 57 = 12 ∧ q_al 58 = 3 ∧ q_al 59 = 12 ∧ q_al 60 = 3 ∧ q_al 61 = 160 ∧ q_al 62 = 8 ∧ q_al 63 = 80 ∧ q_al 64 = 5 ∧ q_al 65 = 29 ∧ q_al 66 = 16 ∧ q_al 67 = 3 ∧ q_al 68 = 494 ∧ q_al 69 = 40500 ∧ q_al 70 = 40500 ∧ q_al 71 = 40500 ∧ q_al 72 = 6 ∧ q_al 80 = 1 := ⟨rfl, rfl, rfl, rfl, rfl, rfl, rfl, rfl, rfl, rfl, rfl, rfl, rfl, rfl, rfl, rfl, rfl, rfl, rfl, rfl, rfl, rfl, rfl, rfl, rfl, rfl, rfl, rfl, rfl, rfl, rfl, rfl, rfl, rfl, rfl, rfl, rfl, rfl, rfl, rfl, rfl, rfl, rfl, rfl, rfl, rfl, rfl, rfl, rfl, rfl, rfl, rfl, rfl, rfl, rfl, rfl, rfl⟩

abbrev qG : Type := (Nat → Nat → Nat) × (Nat → Nat → ClassId) × va_G
def q_cv (G : qG) : qV → Value
  | .inl x => .int x
  | .inr (.inl y) => .long y
  | .inr (.inr p) => .ref (G.1 p.1 p.2)
def q_fv (G : qG) (S : qSt) (f i j : Nat) (k : Nat × Nat × Nat × Nat) : Value := match k.1 with
  | 0 => .int (q_I S f i j)
  | 1 => .long (q_L S f i j)
  | 2 => .int (q_I S f i j)
  | 3 => .ref (G.1 k.2.1 (k.2.2.1 + k.2.2.2 * i))
  | _ => .ref (G.1 k.2.1 (q_M S f i j))
def q_fvs (G : qG) (S : qSt) (f i : Nat) : Nat → List (Nat × Nat × Nat × Nat) → List Value
  | _, [] => []
  | j, k :: ks => q_fv G S f i j k :: q_fvs G S f i (j + 1) ks
def q_cel (G : qG) (S : qSt) (f i : Nat) : va_E := match q_fam f with
  | .inl q => .inr (q.1, q_fvs G S f i 0 q.2)
  | .inr (0, n, _) => .inl (G.2.1 f i, n, .inl (q_I S f i))
  | .inr (1, n, _) => .inl (G.2.1 f i, n, .inl (q_I S f i))
  | .inr (2, n, _) => .inl (G.2.1 f i, n, .inr (.inl (q_L S f i)))
  | .inr (_, n, g, c0, c1) => .inl (G.2.1 f i, n, .inr (.inr (.inr (.inr (fun j => some (G.1 g (c0 + c1 * i + j)))))))
def q_fk (f j : Nat) : Option (Nat × Nat × Nat × Nat) := match q_fam f with
  | .inl q => q.2[j]?
  | .inr _ => none
/-- the heap holds the store; what refers, refers to a cell of the world -/
def q_H (G : qG) (S : qSt) (H : Heap) : Prop := (∀ f i, i < q_cnt f → va_at G.2.2 vwCl (G.1 f i, q_cel G S f i) H) ∧
  ∀ f i j g c, i < q_cnt f → q_fk f j = some (4, g, c) → q_M S f i j < q_cnt g
def q_W (G : qG) (U : State) : Prop := va_K G.2.2 vwCl [] U ∧ (∀ f i, i < q_cnt f → q_ak f < 4 → ArrOfT U (G.2.1 f i) (q_aty f) ∧ va_RA U (G.2.1 f i) (q_aty f)) ∧
  ∀ f i g j, i < q_cnt f → j < q_cnt g → G.1 f i = G.1 g j → f = g ∧ i = j
theorem q_W.moved {G : qG} {u U : State} (hvm : u.vm.Alike U.vm) (h : q_W G u) : q_W G U :=
  ⟨h.1.moved hvm, fun f i hi hk => ⟨arrOfT_moved hvm (h.2.1 f i hi hk).1, (h.2.1 f i hi hk).2.moved hvm⟩, h.2.2⟩
def q_A (G : qG) : Nat → Prop := fun q => ∃ f i, i < q_cnt f ∧ q = G.1 f i
/-- the texts of the claim's String constants, and where they are named -/
def q_txt : List String := ["an argument is out of its range", "no such lane", "no such car", "lane", "car", "key", "cost", "length", "tries", "hour", "cars", "moved", "own", "least", "most", "park", "move", "leave", "swap", "again"]
def q_slen : List Nat := [31, 12, 11, 4, 3, 3, 4, 6, 5, 4, 4, 5, 3, 5, 4, 4, 4, 5, 4, 5]
def q_sbyt : List (List Int32) := [[97, 110, 32, 97, 114, 103, 117, 109, 101, 110, 116, 32, 105, 115, 32, 111, 117, 116, 32, 111, 102, 32, 105, 116, 115, 32, 114, 97, 110, 103, 101], [110, 111, 32, 115, 117, 99, 104, 32, 108, 97, 110, 101], [110, 111, 32, 115, 117, 99, 104, 32, 99, 97, 114], [108, 97, 110, 101], [99, 97, 114], [107, 101, 121], [99, 111, 115, 116], [108, 101, 110, 103, 116, 104], [116, 114, 105, 101, 115], [104, 111, 117, 114], [99, 97, 114, 115], [109, 111, 118, 101, 100], [111, 119, 110], [108, 101, 97, 115, 116], [109, 111, 115, 116], [112, 97, 114, 107], [109, 111, 118, 101], [108, 101, 97, 118, 101], [115, 119, 97, 112], [97, 103, 97, 105, 110]]
def q_sref : List (String × Nat × Nat) := [("BlockedCars", 339, 0), ("BlockedCars", 346, 1), ("BlockedCars", 349, 2), ("BlockedCars$Yard", 94, 3), ("BlockedCars$Yard", 100, 4), ("BlockedCars$Yard", 102, 5), ("BlockedCars$Yard", 104, 6), ("BlockedCars$Law", 101, 7), ("BlockedCars$Law", 103, 8), ("BlockedCars$Law", 105, 9), ("BlockedCars$Law", 107, 4), ("BlockedCars$Law", 109, 3), ("BlockedCars$Law", 111, 10), ("BlockedCars$Law", 113, 11), ("BlockedCars$Law", 115, 12), ("BlockedCars$Law", 82, 13), ("BlockedCars$Law", 92, 14), ("BlockedCars$Work", 58, 15), ("BlockedCars$Work", 81, 16), ("BlockedCars$Work", 83, 17), ("BlockedCars$Work", 85, 18), ("BlockedCars$Work", 87, 19)]
/-- what a start gives of cells that no method changes: texts (their addresses: families 99, 98), statics, a nest mate's link -/
def q_E (G : qG) (U : State) (H : Heap) : Prop := vk_S 20 q_slen q_sbyt (G.1 99) (G.1 98) (q_A G) U H ∧ (∀ x ∈ q_sref, vk_R x.1 x.2.1 (q_txt.getD x.2.2 "") (G.1 99 x.2.2) U) ∧ va_Nw (.methodLinkNest "BlockedCars$Spots" 80 yX10_isWithin "BlockedCars") U ∧
  va_Z "java/lang/String" "COMPACT_STRINGS" "Z" (.int 1) (q_A G) U H ∧ vx_Zq Bundle.tN "UNASSIGNED_STACK" Bundle.steD (q_A G) U H ∧ vx_Zq Bundle.tN "SUPPRESSED_SENTINEL" Bundle.listD (q_A G) U H ∧ va_Zq "jdk/internal/util/Preconditions" "SIOOBE_FORMATTER" "Ljava/util/function/BiFunction;" (q_A G) U H
theorem q_E.same {G : qG} {u U : State} (hv : U.vm = u.vm) (hh : U.heap = u.heap) (h : q_E G u u.heap) : q_E G U U.heap := by
  have al : u.vm.Alike U.vm := by rw [hv]; exact Vm.Alike.refl u.vm
  obtain ⟨h1, h2, h3, h4, h5, h6, h7⟩ := h
  rw [hh]
  exact ⟨h1.moved al, fun x hx => (h2 x hx).same hv, h3.same rfl hv.symm, h4.moved al, h5.moved al, h6.moved al, h7.moved al⟩
theorem q_E.go {G : qG} {s U : State} {H : Heap} {locs : List Loc} (hS : va_S (q_A G) s.heap H locs) (hW : s.WarmedH U.vm) (hU : U.heap = H) (h : q_E G s s.heap) : q_E G U U.heap := by
  obtain ⟨h1, h2, h3, h4, h5, h6, h7⟩ := h
  rw [hU]
  exact ⟨(h1.kept hS.2.1).moved hW.alike, fun x hx => (h2 x hx).warm hW, h3.warmM hW, (h4.kept hS.2.1).moved hW.alike, (h5.kept hS.2.1).moved hW.alike, (h6.kept hS.2.1).moved hW.alike, (h7.kept hS.2.1).moved hW.alike⟩
def q_ok : qV → Prop
  | .inr (.inr p) => p.2 < q_cnt p.1 ∨ (97 ≤ p.1 ∧ p.2 < 20)
  | _ => True
def q_oks (st : List qV) : Prop := ∀ v ∈ st, q_ok v
def q_okl (ls : qLs) : Prop := ∀ v, some v ∈ ls → q_ok v
def q_ty (r : Nat) (v : Option qV) : Prop := match r with
  | 0 => v = none
  | 1 => ∃ x, v = some (.inl x)
  | 2 => ∃ x, v = some (.inr (.inl x))
  | n + 3 => ∃ i, v = some (.inr (.inr (n, i))) ∧ i < q_cnt n
def q_Qc (G : qG) (rt : Nat) (post : Option qV → qSt → Prop) : Array Value → State → Outcome → State → Prop := fun _ st o t =>
  (∃ r S', o = .returned (r.map (q_cv G)) ∧ q_ty rt r ∧ post r S' ∧ q_H G S' t.heap ∧ q_W G t) ∧ va_F (q_A G) st t
def q_Pc (G : qG) (as : List qV) (S : qSt) : Array Value → State → Prop := fun v U => v = (as.map (q_cv G)).toArray ∧ q_W G U ∧ q_H G S U.heap ∧ q_oks as ∧ q_E G U U.heap
theorem q_Pc_blind (G : qG) (as : List qV) (S : qSt) : FrameBlind (q_Pc G as S) := fun a U g mk h => ⟨h.1, q_W.moved (u := U) (U := U.calling g mk a) (Vm.Alike.refl U.vm) h.2.1, h.2.2.1, h.2.2.2.1, q_E.same (u := U) rfl rfl h.2.2.2.2⟩
abbrev qM : Type := MethodName × ByteArray × Nat × Option FieldType
def q_rm (d : Nat) : Room := { frames := d, cells := 0, slots := 0, locals := 200 * d }
def q_TB : List Cond := lw_tbl.filter goodWord
def q_ws (q : qM) : List Cond := .code q.1 q.2.1 q.2.2.1 q.2.2.2 :: q_TB
/-- the contract of method number k at depth d: with these arguments, from this store -/
def q_Met (mt : Nat → Option qM) (l : Launch) (d k rt : Nat) (as : List qV) (S : qSt) (post : Option qV → qSt → Prop) : Prop :=
  ∀ (G : qG) (q : qM), mt k = some q → Met l q.1 (q_ws q) (q_rm d) (q_Pc G as S) (q_Qc G rt post) 0 0 (q_A G)
/-- six numbers of one row of family 27 to another -/
def q_cp6 (S : qSt) (i j : Nat) : qSt := (fun a b c => if a = 27 ∧ b = j ∧ c < 6 then S.1 27 i c else S.1 a b c, S.2)
/-- instructions: number, pc, three numbers, an int, a long, a switch's rows -/
abbrev qO : Type := Nat × Nat × Nat × Nat × Nat × Int32 × Int64 × List (Int32 × Nat)
def q_call (mt : Nat → Option qM) (l : Launch) (d k rt : Nat) (as : List qV) (S : qSt) (K : List qV → qSt → Prop) : Prop := match rt with
  | 0 => ∃ d' post, d' < d ∧ q_Met mt l d' k 0 as S post ∧ ∀ S', post none S' → K [] S'
  | 1 => ∃ d' post, d' < d ∧ q_Met mt l d' k 1 as S post ∧ ∀ x S', post (some (.inl x)) S' → K [.inl x] S'
  | 2 => ∃ d' post, d' < d ∧ q_Met mt l d' k 2 as S post ∧ ∀ x S', post (some (.inr (.inl x))) S' → K [.inr (.inl x)] S'
  | n + 3 => ∃ d' post, d' < d ∧ q_Met mt l d' k (n + 3) as S post ∧ ∀ i S', post (some (.inr (.inr (n, i)))) S' → K [.inr (.inr (n, i))] S'
def q_w (st : List qV) : Nat := match st with
  | [] => 0
  | .inr (.inl _) :: r => 2 + q_w r
  | _ :: r => 1 + q_w r
def q_op (mt : Nat → Option qM) (l : Launch) (d rt : Nat) (J : Nat → qLs → List qV → qSt → Prop) (RET : Option qV → qSt → Prop) (o : qO) (ls : qLs) (st : List qV) (S : qSt) (k : qLs → List qV → qSt → Prop) : Prop := match o with
  | (0, _, _, _, _, z, _, _) => k ls (.inl z :: st) S
  | (1, _, _, _, _, _, z, _) => k ls (.inr (.inl z) :: st) S
  | (2, _, a, _) => q_ldI (q_get ls a) (fun v => k ls (v :: st) S)
  | (3, _, a, _) => q_ldL (q_get ls a) (fun v => k ls (v :: st) S)
  | (4, _, a, _) => q_ldR (q_get ls a) (fun v => k ls (v :: st) S)
  | (5, _, a, _) => match st with
    | .inl x :: r => k (q_put ls a (some (.inl x))) r S
    | _ => False
  | (6, _, a, _) => match st with
    | .inr (.inl x) :: r => k (q_put (q_put ls (a + 1) none) a (some (.inr (.inl x)))) r S
    | _ => False
  | (7, _, a, _) => match st with
    | .inr (.inr x) :: r => k (q_put ls a (some (.inr (.inr x)))) r S
    | _ => False
  | (8, _, a, _, _, z, _) => q_inc (q_get ls a) z (fun v => k (q_put ls a (some v)) st S)
  | (9, _, a, _) => match st with
    | .inl y :: .inl x :: r => k ls (.inl (q_bin a x y) :: r) S
    | _ => False
  | (10, _) => match st with
    | .inl y :: .inl x :: r => ¬ y = 0 ∧ k ls (.inl (x / y) :: r) S
    | _ => False
  | (11, _) => match st with
    | .inl y :: .inl x :: r => ¬ y = 0 ∧ k ls (.inl (x - x / y * y) :: r) S
    | _ => False
  | (12, _, a, _) => match st with
    | .inr (.inl y) :: .inr (.inl x) :: r => k ls (.inr (.inl (q_binL a x y)) :: r) S
    | _ => False
  | (13, _, a, _) => match st with
    | .inl y :: .inr (.inl x) :: r => k ls (.inr (.inl (q_shL a x y)) :: r) S
    | _ => False
  | (14, _) => match st with
    | .inl x :: r => k ls (.inl (-x) :: r) S
    | _ => False
  | (15, _) => match st with
    | .inl x :: r => k ls (.inl x.toInt8.toInt32 :: r) S
    | _ => False
  | (16, _) => match st with
    | .inl x :: r => k ls (.inr (.inl x.toInt64) :: r) S
    | _ => False
  | (17, _) => match st with
    | .inr (.inl x) :: r => k ls (.inl x.toInt32 :: r) S
    | _ => False
  | (18, _) => match st with
    | .inr (.inl y) :: .inr (.inl x) :: r => k ls (.inl (lg_cmp x y) :: r) S
    | _ => False
  | (19, _) => match st with
    | .inl x :: r => k ls (.inl x :: .inl x :: r) S
    | .inr (.inr x) :: r => k ls (.inr (.inr x) :: .inr (.inr x) :: r) S
    | _ => False
  | (20, _) => match st with
    | .inl y :: .inr (.inr x) :: r => k ls (.inl y :: .inr (.inr x) :: .inl y :: .inr (.inr x) :: r) S
    | _ => False
  | (21, _) => match st with
    | .inl _ :: r => k ls r S
    | .inr (.inr _) :: r => k ls r S
    | _ => False
  | (22, _, a, b, _) => match st with
    | .inl x :: r => q_if a x 0 (J b ls r S) (k ls r S)
    | _ => False
  | (23, _, a, b, _) => match st with
    | .inl y :: .inl x :: r => q_if a x y (J b ls r S) (k ls r S)
    | _ => False
  | (24, _, a, _) => J a ls st S
  | (25, _, a, _, _, _, _, w) => match st with
    | .inl x :: r => q_sw x (fun b => J b ls r S) a w
    | _ => False
  | (26, _, f, j, _) => match st with
    | .inr (.inr (g, i)) :: r => g = f ∧ k ls (.inl (q_I S f i j) :: r) S
    | _ => False
  | (27, _, f, j, _) => match st with
    | .inr (.inr (g, i)) :: r => g = f ∧ k ls (.inr (.inl (q_L S f i j)) :: r) S
    | _ => False
  | (28, _, f, _, h, _) => match st with
    | .inr (.inr (g, i)) :: r => g = f ∧ k ls (.inr (.inr (h, i)) :: r) S
    | _ => False
  | (29, _, f, _, h, _, _, w) => match st with
    | .inr (.inr (g, _)) :: r => g = f ∧ match w with
      | [(_, c)] => k ls (.inr (.inr (h, c)) :: r) S
      | _ => False
    | _ => False
  | (30, _, f, j, h, _) => match st with
    | .inr (.inr (g, i)) :: r => g = f ∧ k ls (.inr (.inr (h, q_M S f i j)) :: r) S
    | _ => False
  | (31, _, f, j, _) => match st with
    | .inl x :: .inr (.inr (g, i)) :: r => g = f ∧ k ls r (q_wI S f i j x)
    | _ => False
  | (32, _, f, j, _) => match st with
    | .inr (.inl x) :: .inr (.inr (g, i)) :: r => g = f ∧ k ls r (q_wL S f i j x)
    | _ => False
  | (33, _, f, j, h, _) => match st with
    | .inr (.inr (h', x)) :: .inr (.inr (g, i)) :: r => h' = h ∧ g = f ∧ k ls r (q_wM S f i j x)
    | _ => False
  | (34, _, f, j, _) => match st with
    | .inl x :: .inr (.inr (g, i)) :: r => (x = 0 ∨ x = 1) ∧ g = f ∧ k ls r (q_wI S f i j x)
    | _ => False
  | (35, _) => match st with
    | .inl x :: .inr (.inr (f, i)) :: r => q_ak f = 0 ∧ vp_in x (q_al f) ∧ k ls (.inl (q_I S f i x.toNatClampNeg) :: r) S
    | _ => False
  | (36, _) => match st with
    | .inl x :: .inr (.inr (f, i)) :: r => q_ak f = 1 ∧ vp_in x (q_al f) ∧ k ls (.inl (q_I S f i x.toNatClampNeg) :: r) S
    | _ => False
  | (37, _) => match st with
    | .inl x :: .inr (.inr (f, i)) :: r => q_ak f = 2 ∧ vp_in x (q_al f) ∧ k ls (.inr (.inl (q_L S f i x.toNatClampNeg)) :: r) S
    | _ => False
  | (38, _) => match st with
    | .inl x :: .inr (.inr (f, i)) :: r => vp_in x (q_al f) ∧ match q_fam f with
      | .inr (3, _, g, c0, c1) => k ls (.inr (.inr (g, c0 + c1 * i + x.toNatClampNeg)) :: r) S
      | _ => False
    | _ => False
  | (39, _) => match st with
    | .inl v :: .inl x :: .inr (.inr (f, i)) :: r => q_ak f = 0 ∧ vp_in x (q_al f) ∧ k ls r (q_wI S f i x.toNatClampNeg v)
    | _ => False
  | (40, _) => match st with
    | .inl v :: .inl x :: .inr (.inr (f, i)) :: r => q_ak f = 1 ∧ vp_in x (q_al f) ∧ k ls r (q_wI S f i x.toNatClampNeg v.toInt8.toInt32)
    | _ => False
  | (41, _) => match st with
    | .inr (.inl v) :: .inl x :: .inr (.inr (f, i)) :: r => q_ak f = 2 ∧ vp_in x (q_al f) ∧ k ls r (q_wL S f i x.toNatClampNeg v)
    | _ => False
  | (42, _) => match st with
    | .inr (.inr (f, _)) :: r => q_ak f < 4 ∧ k ls (.inl (Int32.ofNat (q_al f)) :: r) S
    | _ => False
  | (43, _, a, n, r9, _) => n ≤ st.length ∧ q_w (st.drop n) ≤ 8 ∧ q_call mt l d a r9 (st.take n).reverse S (fun v S' => k ls (v ++ st.drop n) S')
  | (44, _, a, n, r9, _, _, w) => match w, (st.take n).reverse with
    | [(_, h)], .inr (.inr (f, i)) :: as => f = h ∧ n ≤ st.length ∧ q_w (st.drop n) ≤ 8 ∧ q_call mt l d a r9 (.inr (.inr (f, i)) :: as) S (fun v S' => k ls (v ++ st.drop n) S')
    | _, _ => False
  | (45, _) => match st with
    | [.inl x] => RET (some (.inl x)) S
    | _ => False
  | (46, _) => match st with
    | [.inl x] => (x = 0 ∨ x = 1) ∧ RET (some (.inl x)) S
    | _ => False
  | (47, _) => match st with
    | [.inr (.inl x)] => RET (some (.inr (.inl x))) S
    | _ => False
  | (48, _) => match st with
    | [.inr (.inr x)] => x.1 + 3 = rt ∧ RET (some (.inr (.inr x))) S
    | _ => False
  | (49, _) => match st with
    | [] => RET none S
    | _ => False
  | (50, _, a, _) => J a ls st S
  | (51, _) => match st with
    | .inl y :: .inl x :: r => (0 < d ∧ q_w r ≤ 8) ∧ k ls (.inl (if y < x then y else x) :: r) S
    | _ => False
  | (52, _) => match st with
    | .inl y :: .inl x :: r => (0 < d ∧ q_w r ≤ 8) ∧ k ls (.inl (if x < y then y else x) :: r) S
    | _ => False
  | (54, _, a, _) => k ls (.inr (.inr (99, a)) :: st) S
  | (55, _, a, n, r9, _) => n ≤ st.length ∧ q_w (st.drop n) ≤ 8 ∧ q_call mt l d a r9 (st.take n).reverse S (fun v S' => k ls (v ++ st.drop n) S')
  | (56, _) => match st with
    | .inl n :: .inl dp :: .inr (.inr (g, j)) :: .inl p9 :: .inr (.inr (f, i)) :: r => f = 27 ∧ g = 27 ∧ ¬ i = j ∧ n = 6 ∧ dp = 0 ∧ p9 = 0 ∧ 0 < d ∧ q_w r ≤ 8 ∧ k ls r (q_cp6 S i j)
    | _ => False
  | (57, _) => match st with
    | .inr (.inr (g, i)) :: r => g = 99 ∧ k ls (.inr (.inr (98, i)) :: r) S
    | _ => False
  | (58, _) => match st with
    | .inr (.inr (g, _)) :: r => g = 99 ∧ k ls (.inl 0 :: r) S
    | _ => False
  | (59, _) => k ls (.inl 1 :: st) S
  | (60, _) => k ls (.inr (.inr (97, 0)) :: st) S
  | (61, _) => match st with
    | .inr (.inr (g, i)) :: r => g = 98 ∧ k ls (.inl (Int32.ofNat (q_slen.getD i 0)) :: r) S
    | _ => False
  | (62, _) => match st with
    | .inl x :: .inr (.inr (g, i)) :: r => g = 98 ∧ vp_in x (q_slen.getD i 0) ∧ k ls (.inl ((q_sbyt.getD i []).getD x.toNatClampNeg 0) :: r) S
    | _ => False
  | (63, _) => match st with
    | .inl x :: r => k ls (.inl (x.toUInt32 % 65536).toInt32 :: r) S
    | _ => False
  | (64, _, a, n, r9, _) => match (st.take n).reverse with
    | .inr (.inr (f, i)) :: as => f = 99 ∧ n ≤ st.length ∧ q_w (st.drop n) ≤ 8 ∧ q_call mt l d a r9 (.inr (.inr (f, i)) :: as) S (fun v S' => k ls (v ++ st.drop n) S')
    | _ => False
  | (65, _) => match st with
    | [.inl x] => x.toInt8.toInt32 = x ∧ RET (some (.inl x)) S
    | _ => False
  | (66, _) => match st with
    | [.inl x] => (x.toUInt32 % 65536).toInt32 = x ∧ RET (some (.inl x)) S
    | _ => False
  | _ => False
def q_run (mt : Nat → Option qM) (l : Launch) (d rt : Nat) (J : Nat → qLs → List qV → qSt → Prop) (RET : Option qV → qSt → Prop) : List qO → qLs → List qV → qSt → Prop
  | [], _, _, _ => False
  | o :: os, ls, st, S => q_op mt l d rt J RET o ls st S (fun ls st S => q_run mt l d rt J RET os ls st S)
theorem q_TB_good {w : Cond} (h : w ∈ q_TB) : w ∈ lw_tbl ∧ goodWord w = true := List.mem_filter.mp h
theorem q_TB_in {w : Cond} (h : w ∈ lw_tbl) (g : goodWord w = true) : w ∈ q_TB := List.mem_filter.mpr ⟨h, g⟩
/-- what the tables say of an object's family -/
def q_fo (f : Nat) : Prop := ∀ q, q_fam f = .inl q → ∃ (C : String) (T : u_T) (N : Nat) (ty : Nat → FieldType), vwCl[q.1]? = some (C, T, N) ∧ q.2.length = N ∧ (∀ w ∈ u_ws C T N, w ∈ q_TB) ∧
  (∀ k, k < N → parseFieldDescriptor (T k).2.2.1 = some (ty k)) ∧ (∀ a, a < N → ∀ b, b < N → a ≠ b → (T a).2.1 ≠ (T b).2.1) ∧ (∀ k, k < N → (T k).1 = C) ∧
  ∀ j k, q.2[j]? = some k → (k.1 = 0 → ty j = .int ∧ (T j).2.2.2 = false) ∧ (k.1 = 1 → ty j = .long ∧ (T j).2.2.2 = false) ∧ (k.1 = 2 → ty j = .boolean ∧ (T j).2.2.2 = false) ∧ (k.1 = 4 → (∃ n, ty j = .object n) ∧ (T j).2.2.2 = false) ∧ k.1 < 5
/-- the constant pool's rows that the code uses: field (class, slot), virtual, static, min or max -/
def q_cpok (mt : Nat → Option qM) (own : String) (e : Nat × Nat × Nat × Nat) : Prop := match e with
  | (k, 0, ci, j) => ∀ C T N, vwCl[ci]? = some (C, T, N) → Cond.fieldLink own k C (T j).2.1 (T j).2.2.1 ∈ q_TB
  | (k, 1, a, n) => ∃ q, mt a = some q ∧ Cond.methodLink own k q.1 ∈ q_TB ∧ Cond.instanceMethod q.1 ∈ q_TB ∧ Cond.selects q.1.cls q.1 q.1 ∈ q_TB ∧ Cond.initialized q.1.cls ∈ q_TB ∧ Cond.code q.1 q.2.1 q.2.2.1 q.2.2.2 ∈ q_TB ∧
    (q.1.cls ≠ "java/lang/invoke/MethodHandle" ∧ q.1.cls ≠ "java/lang/invoke/VarHandle" ∧ (parseMethodDescriptor q.1.desc).map (fun d => d.parameters.length) = some n) ∧ q.2.2.1 ≤ 150
  | (k, 2, a, n) => ∃ q, mt a = some q ∧ Cond.methodLink own k q.1 ∈ q_TB ∧ Cond.static q.1 ∈ q_TB ∧ Cond.initialized q.1.cls ∈ q_TB ∧ Cond.code q.1 q.2.1 q.2.2.1 q.2.2.2 ∈ q_TB ∧
    (q.1.cls ≠ "java/lang/invoke/MethodHandle" ∧ q.1.cls ≠ "java/lang/invoke/VarHandle" ∧ (parseMethodDescriptor q.1.desc).map (fun d => d.parameters.length) = some n) ∧ q.2.2.1 ≤ 150
  | (k, 4, a, n) => ∃ q, mt a = some q ∧ own = "BlockedCars$Spots" ∧ k = 80 ∧ q.1 = yX10_isWithin ∧ Cond.static q.1 ∈ q_TB ∧ Cond.initialized q.1.cls ∈ q_TB ∧ Cond.code q.1 q.2.1 q.2.2.1 q.2.2.2 ∈ q_TB ∧
    (q.1.cls ≠ "java/lang/invoke/MethodHandle" ∧ q.1.cls ≠ "java/lang/invoke/VarHandle" ∧ (parseMethodDescriptor q.1.desc).map (fun d => d.parameters.length) = some n) ∧ q.2.2.1 ≤ 150
  | (k, 5, _, _) => Cond.methodLink own k arraycopyName ∈ q_TB
  | (k, 6, 0, _) => Cond.fieldLink own k "java/lang/String" "value" "[B" ∈ q_TB
  | (k, 6, 1, _) => Cond.fieldLink own k "java/lang/String" "coder" "B" ∈ q_TB
  | (k, 6, 2, _) => Cond.fieldLink own k "java/lang/String" "COMPACT_STRINGS" "Z" ∈ q_TB
  | (k, 6, 3, _) => Cond.fieldLink own k "jdk/internal/util/Preconditions" "SIOOBE_FORMATTER" "Ljava/util/function/BiFunction;" ∈ q_TB
  | (k, 3, 0, _) => Cond.methodLink own k Lib.Math.min.name ∈ q_TB
  | (k, 3, _, _) => Cond.methodLink own k Lib.Math.max.name ∈ q_TB
  | _ => False
abbrev qK : Type := List (Nat × Nat × Nat × Nat) × List (Nat × Int32) × List (Nat × Int64) × List (Nat × Nat)
def q_kok (mt : Nat → Option qM) (own : String) (K : qK) : Prop := (∀ e ∈ K.1, q_cpok mt own e) ∧ (∀ e ∈ K.2.1, Cond.constant own e.1 e.2 ∈ q_TB) ∧ (∀ e ∈ K.2.2.1, Cond.constantLong own e.1 e.2 ∈ q_TB) ∧ ∀ e ∈ K.2.2.2, (own, e.1, e.2) ∈ q_sref
def q_bp (B : List Nat) (b : Nat) : Nat := B.getD b 0
def q_cnd : Nat → ClassFile.Cond
  | 0 => .eq
  | 1 => .ne
  | 2 => .lt
  | 3 => .ge
  | 4 => .gt
  | _ => .le
def q_ci (f : Nat) : Nat := match q_fam f with | .inl q => q.1 | .inr _ => 99
/-- the instructions that an op may stand for, with their lengths -/
def q_exp (K : qK) (B : List Nat) (len : Nat) (o : qO) : List (Instr × Nat) := match o with
  | (0, _, _, _, _, z, _, _) => [(.iconst z.toInt, 1)] ++ ((if (Int8.ofInt z.toInt).toInt32 = z then [(.bipush z.toInt, 2)] else []) ++ (if (Int16.ofInt z.toInt).toInt32 = z then [(.sipush z.toInt, 3)] else [])) ++ ((K.2.1.filter (fun e => decide (e.2 = z))).map (fun e => ((.ldc e.1, 2) : Instr × Nat)) ++ (K.2.1.filter (fun e => decide (e.2 = z))).map (fun e => ((.ldc_w e.1, 3) : Instr × Nat)))
  | (1, _, _, _, _, _, z, _) => ((if z = 0 then [(.lconst 0, 1)] else []) ++ (if z = 1 then [(.lconst 1, 1)] else [])) ++ (K.2.2.1.filter (fun e => decide (e.2 = z))).map (fun e => ((.ldc2_w e.1, 3) : Instr × Nat))
  | (2, _, a, _) => (.iload a, 2) :: (if a < 4 then [(.iload_n (Fin.ofNat 4 a), 1)] else [])
  | (3, _, a, _) => (.lload a, 2) :: (if a < 4 then [(.lload_n (Fin.ofNat 4 a), 1)] else [])
  | (4, _, a, _) => (.aload a, 2) :: (if a < 4 then [(.aload_n (Fin.ofNat 4 a), 1)] else [])
  | (5, _, a, _) => (.istore a, 2) :: (if a < 4 then [(.istore_n (Fin.ofNat 4 a), 1)] else [])
  | (6, _, a, _) => (.lstore a, 2) :: (if a < 4 then [(.lstore_n (Fin.ofNat 4 a), 1)] else [])
  | (7, _, a, _) => (.astore a, 2) :: (if a < 4 then [(.astore_n (Fin.ofNat 4 a), 1)] else [])
  | (8, _, a, _, _, z, _) => [(.iinc a z.toInt, 3)]
  | (9, _, 0, _) => [(.iadd, 1)]
  | (9, _, 1, _) => [(.isub, 1)]
  | (9, _, 2, _) => [(.imul, 1)]
  | (9, _, 3, _) => [(.iand, 1)]
  | (9, _, 4, _) => [(.ior, 1)]
  | (9, _, 5, _) => [(.ixor, 1)]
  | (9, _, 6, _) => [(.ishl, 1)]
  | (9, _, 7, _) => [(.ishr, 1)]
  | (9, _, 8, _) => [(.iushr, 1)]
  | (10, _) => [(.idiv, 1)]
  | (11, _) => [(.irem, 1)]
  | (12, _, 0, _) => [(.ladd, 1)]
  | (12, _, 1, _) => [(.lsub, 1)]
  | (12, _, 2, _) => [(.lmul, 1)]
  | (12, _, 3, _) => [(.land, 1)]
  | (12, _, 4, _) => [(.lor, 1)]
  | (12, _, 5, _) => [(.lxor, 1)]
  | (13, _, 0, _) => [(.lshl, 1)]
  | (13, _, 1, _) => [(.lshr, 1)]
  | (13, _, 2, _) => [(.lushr, 1)]
  | (14, _) => [(.ineg, 1)]
  | (15, _) => [(.i2b, 1)]
  | (16, _) => [(.i2l, 1)]
  | (17, _) => [(.l2i, 1)]
  | (18, _) => [(.lcmp, 1)]
  | (19, _) => [(.dup, 1)]
  | (20, _) => [(.dup2, 1)]
  | (21, _) => [(.pop, 1)]
  | (22, pc, a, b, _) => [(.ifCond (q_cnd a) ((q_bp B b : Int) - pc), 3)]
  | (23, pc, a, b, _) => [(.if_icmp (q_cnd a) ((q_bp B b : Int) - pc), 3)]
  | (24, pc, a, _) => [(.goto ((q_bp B a : Int) - pc), 3)]
  | (25, pc, a, _, _, _, _, w) => (if (List.range w.length).all (fun i => decide ((w[i]?).map (fun e => e.1.toInt) = some ((w.head?.map (fun e => e.1.toInt)).getD 0 + i))) then [(.tableswitch ((q_bp B a : Int) - pc) ((w.head?.map (fun e => e.1.toInt)).getD 0) ((w.head?.map (fun e => e.1.toInt)).getD 0 + w.length - 1) (w.map (fun e => (q_bp B e.2 : Int) - pc)).toArray, len)] else []) ++ (if ((w.map (fun e => (e.1.toInt, (q_bp B e.2 : Int) - pc))).zip ((w.map (fun e => (e.1.toInt, (q_bp B e.2 : Int) - pc))).drop 1)).all (fun (a, next) => a.1 < next.1) then [(.lookupswitch ((q_bp B a : Int) - pc) (w.map (fun e => (e.1.toInt, (q_bp B e.2 : Int) - pc))).toArray, len)] else [])
  | (26, _, f, j, _) => (K.1.filter (fun e => decide (e.2.1 = 0 ∧ e.2.2.1 = q_ci f ∧ e.2.2.2 = j))).map (fun e => ((.getfield e.1, 3) : Instr × Nat))
  | (27, _, f, j, _) => (K.1.filter (fun e => decide (e.2.1 = 0 ∧ e.2.2.1 = q_ci f ∧ e.2.2.2 = j))).map (fun e => ((.getfield e.1, 3) : Instr × Nat))
  | (28, _, f, j, _) => (K.1.filter (fun e => decide (e.2.1 = 0 ∧ e.2.2.1 = q_ci f ∧ e.2.2.2 = j))).map (fun e => ((.getfield e.1, 3) : Instr × Nat))
  | (29, _, f, j, _) => (K.1.filter (fun e => decide (e.2.1 = 0 ∧ e.2.2.1 = q_ci f ∧ e.2.2.2 = j))).map (fun e => ((.getfield e.1, 3) : Instr × Nat))
  | (30, _, f, j, _) => (K.1.filter (fun e => decide (e.2.1 = 0 ∧ e.2.2.1 = q_ci f ∧ e.2.2.2 = j))).map (fun e => ((.getfield e.1, 3) : Instr × Nat))
  | (31, _, f, j, _) => (K.1.filter (fun e => decide (e.2.1 = 0 ∧ e.2.2.1 = q_ci f ∧ e.2.2.2 = j))).map (fun e => ((.putfield e.1, 3) : Instr × Nat))
  | (32, _, f, j, _) => (K.1.filter (fun e => decide (e.2.1 = 0 ∧ e.2.2.1 = q_ci f ∧ e.2.2.2 = j))).map (fun e => ((.putfield e.1, 3) : Instr × Nat))
  | (33, _, f, j, _) => (K.1.filter (fun e => decide (e.2.1 = 0 ∧ e.2.2.1 = q_ci f ∧ e.2.2.2 = j))).map (fun e => ((.putfield e.1, 3) : Instr × Nat))
  | (34, _, f, j, _) => (K.1.filter (fun e => decide (e.2.1 = 0 ∧ e.2.2.1 = q_ci f ∧ e.2.2.2 = j))).map (fun e => ((.putfield e.1, 3) : Instr × Nat))
  | (35, _) => [(.iaload, 1)]
  | (36, _) => [(.baload, 1)]
  | (37, _) => [(.laload, 1)]
  | (38, _) => [(.aaload, 1)]
  | (39, _) => [(.iastore, 1)]
  | (40, _) => [(.bastore, 1)]
  | (41, _) => [(.lastore, 1)]
  | (42, _) => [(.arraylength, 1)]
  | (43, _, a, n, _) => (K.1.filter (fun e => decide (e.2.1 = 2 ∧ e.2.2.1 = a ∧ e.2.2.2 = n))).map (fun e => ((.invokestatic e.1, 3) : Instr × Nat))
  | (44, _, a, n, _) => (K.1.filter (fun e => decide (e.2.1 = 1 ∧ e.2.2.1 = a ∧ e.2.2.2 + 1 = n))).map (fun e => ((.invokevirtual e.1, 3) : Instr × Nat))
  | (45, _) => [(.ireturn, 1)]
  | (46, _) => [(.ireturn, 1)]
  | (47, _) => [(.lreturn, 1)]
  | (48, _) => [(.areturn, 1)]
  | (49, _) => [(.return_, 1)]
  | (51, _) => (K.1.filter (fun e => decide (e.2.1 = 3 ∧ e.2.2.1 = 0))).map (fun e => ((.invokestatic e.1, 3) : Instr × Nat))
  | (52, _) => (K.1.filter (fun e => decide (e.2.1 = 3 ∧ e.2.2.1 = 1))).map (fun e => ((.invokestatic e.1, 3) : Instr × Nat))
  | (54, _, a, _) => (K.2.2.2.filter (fun e => decide (e.2 = a))).map (fun e => ((.ldc e.1, 2) : Instr × Nat))
  | (57, _) => (K.1.filter (fun e => decide (e.2.1 = 6 ∧ e.2.2.1 = 0))).map (fun e => ((.getfield e.1, 3) : Instr × Nat))
  | (58, _) => (K.1.filter (fun e => decide (e.2.1 = 6 ∧ e.2.2.1 = 1))).map (fun e => ((.getfield e.1, 3) : Instr × Nat))
  | (59, _) => (K.1.filter (fun e => decide (e.2.1 = 6 ∧ e.2.2.1 = 2))).map (fun e => ((.getstatic e.1, 3) : Instr × Nat))
  | (61, _) => [(.arraylength, 1)]
  | (62, _) => [(.baload, 1)]
  | (63, _) => [(.i2c, 1)]
  | (64, _, a, n, _) => (K.1.filter (fun e => decide (e.2.1 = 1 ∧ e.2.2.1 = a ∧ e.2.2.2 + 1 = n))).map (fun e => ((.invokevirtual e.1, 3) : Instr × Nat))
  | (65, _) => [(.ireturn, 1)]
  | (66, _) => [(.ireturn, 1)]
  | (55, _, a, n, _) => (K.1.filter (fun e => decide (e.2.1 = 4 ∧ e.2.2.1 = a ∧ e.2.2.2 = n))).map (fun e => ((.invokestatic e.1, 3) : Instr × Nat))
  | (56, _) => (K.1.filter (fun e => decide (e.2.1 = 5))).map (fun e => ((.invokestatic e.1, 3) : Instr × Nat))
  | _ => []
/-- what else an op must be -/
def q_ckx (mt : Nat → Option qM) (nL : Nat) (ret : Option FieldType) (o : qO) : Bool := match o with
  | (5, _, a, _) => decide (a < nL)
  | (6, _, a, _) => decide (a + 1 < nL)
  | (7, _, a, _) => decide (a < nL)
  | (8, _, a, _) => decide (a < nL)
  | (26, _, f, j, _) => decide ((q_fk f j).map (fun k => k.1) = some 0) || decide ((q_fk f j).map (fun k => k.1) = some 2)
  | (27, _, f, j, _) => decide ((q_fk f j).map (fun k => k.1) = some 1)
  | (28, _, f, j, h, _) => decide (q_fk f j = some (3, h, 0, 1)) && decide (q_cnt f ≤ q_cnt h)
  | (29, _, f, j, h, _, _, [(_, c)]) => decide (q_fk f j = some (3, h, c, 0)) && decide (c < q_cnt h)
  | (30, _, f, j, h, _) => decide (q_fk f j = some (4, h, 0, 0))
  | (31, _, f, j, _) => decide ((q_fk f j).map (fun k => k.1) = some 0)
  | (32, _, f, j, _) => decide ((q_fk f j).map (fun k => k.1) = some 1)
  | (33, _, f, j, h, _) => decide (q_fk f j = some (4, h, 0, 0)) && decide (h < 97)
  | (34, _, f, j, _) => decide ((q_fk f j).map (fun k => k.1) = some 2)
  | (44, _, a, _, _, _, _, [(_, h)]) => match vwCl[q_ci h]?, mt a with
    | some r, some q => decide (r.1 = q.1.cls)
    | _, _ => false
  | (45, _) => decide (ret = some .int)
  | (46, _) => decide (ret = some .boolean)
  | (47, _) => decide (ret = some .long)
  | (48, _) => match ret with
    | some (.object _) => true
    | _ => false
  | (49, _) => decide (ret = none)
  | (64, _, a, _) => match mt a with
    | some q => decide (q.1.cls = "java/lang/String")
    | _ => false
  | (65, _) => decide (ret = some .byte)
  | (66, _) => decide (ret = some .char)
  | _ => true
def q_ckb (mt : Nat → Option qM) (cc : ByteArray) (K : qK) (B : List Nat) (nL : Nat) (ret : Option FieldType) : Nat → List qO → Bool
  | _, [] => true
  | pc, o :: os => if o.1 = 50 then decide (q_bp B o.2.2.1 = pc) else match decode cc pc with
    | .ok (i, len) => decide (o.2.1 = pc) && ((q_exp K B len o).any (fun x => decide (x = (i, len))) && (q_ckx mt nL ret o && q_ckb mt cc K B nL ret (pc + len) os))
    | _ => false
def q_ckc (mt : Nat → Option qM) (cc : ByteArray) (K : qK) (B : List Nat) (nL : Nat) (ret : Option FieldType) (code : List (List qO)) : Bool :=
  (List.range code.length).all (fun b => q_ckb mt cc K B nL ret (q_bp B b) (code.getD b []))
section QS
variable {mt : Nat → Option qM} {p : Program} {l : Launch} {e : Env} {R : Room} {s : State} {m : MethodId} {args : Array Value} {below : List Frame} {meth : Method} {c : Code} {Q : State → Prop} {G : qG} {cc : ByteArray} {nL : Nat} {own : String} {d : Nat}
def q_enc (G : qG) : Nat → qLs → List (Nat × Value)
  | _, [] => []
  | k, none :: xs => q_enc G (k + 1) xs
  | k, some v :: xs => (k, q_cv G v) :: q_enc G (k + 1) xs
theorem q_enc_mem {G : qG} : ∀ {ls : qLs} {k : Nat} {q : Nat × Value}, q ∈ q_enc G k ls ↔ ∃ j v, q_get ls j = some v ∧ q = (k + j, q_cv G v)
  | [], k, q => by simp [q_enc, q_get]
  | none :: xs, k, q => by
    rw [q_enc, q_enc_mem (ls := xs)]
    constructor
    · rintro ⟨j, v, h, rfl⟩
      exact ⟨j + 1, v, h, by rw [Nat.add_right_comm, Nat.add_assoc]⟩
    · rintro ⟨j, v, h, rfl⟩
      cases j with
      | zero => cases h
      | succ j => exact ⟨j, v, h, by rw [Nat.add_right_comm, Nat.add_assoc]⟩
  | some w :: xs, k, q => by
    rw [q_enc, List.mem_cons, q_enc_mem (ls := xs)]
    constructor
    · rintro (rfl | ⟨j, v, h, rfl⟩)
      · exact ⟨0, w, rfl, rfl⟩
      · exact ⟨j + 1, v, h, by rw [Nat.add_right_comm, Nat.add_assoc]⟩
    · rintro ⟨j, v, h, rfl⟩
      cases j with
      | zero => cases h; exact Or.inl rfl
      | succ j => exact Or.inr ⟨j, v, h, by rw [Nat.add_right_comm, Nat.add_assoc]⟩
theorem q_get_put : ∀ {ls : qLs} {a j : Nat} {v : Option qV} {w : qV}, q_get (q_put ls a v) j = some w → (j = a ∧ v = some w) ∨ (j ≠ a ∧ q_get ls j = some w ∧ (j + 1 = a → q_nl (some w) = some w))
  | [], a, j, v, w, h => by simp [q_put, q_get] at h
  | x :: xs, 0, 0, v, w, h => Or.inl ⟨rfl, h⟩
  | x :: xs, 0, j + 1, v, w, h => Or.inr ⟨by omega, h, fun e => by omega⟩
  | x :: xs, 1, 0, v, w, h => by
    have h : q_nl x = some w := h
    refine Or.inr ⟨by omega, ?_, fun _ => ?_⟩
    · rcases x with _ | (x | x | x) <;> simp [q_nl] at h <;> simp [q_get, h]
    · rcases x with _ | (x | x | x) <;> simp [q_nl] at h <;> simp [q_nl, ← h]
  | x :: xs, 1, j + 1, v, w, h => by
    have h : q_get (q_put xs 0 v) j = some w := h
    rcases q_get_put h with ⟨h1, h2⟩ | ⟨h1, h2, h3⟩
    · exact Or.inl ⟨by omega, h2⟩
    · exact Or.inr ⟨by omega, h2, fun e => by omega⟩
  | x :: xs, a + 2, 0, v, w, h => Or.inr ⟨by omega, h, fun e => by omega⟩
  | x :: xs, a + 2, j + 1, v, w, h => by
    have h : q_get (q_put xs (a + 1) v) j = some w := h
    rcases q_get_put h with ⟨h1, h2⟩ | ⟨h1, h2, h3⟩
    · exact Or.inl ⟨by omega, h2⟩
    · exact Or.inr ⟨by omega, h2, fun e => h3 (by omega)⟩
theorem q_nl_cat {G : qG} {w : qV} (h : q_nl (some w) = some w) : (q_cv G w).category = 1 := by
  rcases w with x | x | x
  · rfl
  · simp [q_nl] at h
  · rfl
theorem q_has1 {arr : Array Slot} {ls : qLs} {a : Nat} {v : qV} (h : lv_has arr nL ((a, q_cv G v) :: (q_enc G 0 ls).filter (fun q => !(q.1 == a) && !(q.1 + 1 == a && q.2.category == 2)))) : lv_has arr nL (q_enc G 0 (q_put ls a (some v))) := by
  refine ⟨h.1, h.2.1, fun q hq => ?_⟩
  obtain ⟨j, w, hw, rfl⟩ := q_enc_mem.mp hq
  rw [Nat.zero_add]
  rcases q_get_put hw with ⟨rfl, h2⟩ | ⟨h1, h2, h3⟩
  · cases h2
    exact h.2.2 _ List.mem_cons_self
  · refine h.2.2 (j, q_cv G w) (List.mem_cons_of_mem _ (List.mem_filter.mpr ⟨q_enc_mem.mpr ⟨j, w, h2, by rw [Nat.zero_add]⟩, ?_⟩))
    by_cases e : j + 1 = a
    · simp [h1, e, q_nl_cat (G := G) (h3 e)]
    · simp [h1, e]
theorem q_has2 {arr : Array Slot} {ls : qLs} {a : Nat} {v : Int64} (h : lv_has arr nL ((a, Value.long v) :: (q_enc G 0 ls).filter (fun q => !(q.1 == a) && (!(q.1 == a + 1) && !(q.1 + 1 == a && q.2.category == 2))))) : lv_has arr nL (q_enc G 0 (q_put (q_put ls (a + 1) none) a (some (.inr (.inl v))))) := by
  refine ⟨h.1, h.2.1, fun q hq => ?_⟩
  obtain ⟨j, w, hw, rfl⟩ := q_enc_mem.mp hq
  rw [Nat.zero_add]
  rcases q_get_put hw with ⟨rfl, h2⟩ | ⟨h1, h2, h3⟩
  · cases h2
    exact h.2.2 _ List.mem_cons_self
  · rcases q_get_put h2 with ⟨-, h4⟩ | ⟨h4, h5, -⟩
    · cases h4
    · refine h.2.2 (j, q_cv G w) (List.mem_cons_of_mem _ (List.mem_filter.mpr ⟨q_enc_mem.mpr ⟨j, w, h5, by rw [Nat.zero_add]⟩, ?_⟩))
      by_cases e : j + 1 = a
      · simp [h1, h4, e, q_nl_cat (G := G) (h3 e)]
      · simp [h1, h4, e]
theorem q_put_okl : ∀ {ls : qLs} {a : Nat} {v : Option qV}, q_okl ls → (∀ w, v = some w → q_ok w) → q_okl (q_put ls a v) := by
  intro ls a v h hv w hw
  have : ∃ j, q_get (q_put ls a v) j = some w := by
    clear h hv
    generalize q_put ls a v = L at hw
    induction L with
    | nil => cases hw
    | cons x xs ih =>
      rcases List.mem_cons.mp hw with e | e
      · exact ⟨0, e.symm⟩
      · obtain ⟨j, hj⟩ := ih e
        exact ⟨j + 1, hj⟩
  obtain ⟨j, hj⟩ := this
  have g : ∀ {L : qLs} {j : Nat} {w : qV}, q_get L j = some w → some w ∈ L := by
    intro L
    induction L with
    | nil => intro j w h; cases h
    | cons x xs ih =>
      intro j w h
      cases j with
      | zero => exact List.mem_cons.mpr (Or.inl h.symm)
      | succ j => exact List.mem_cons_of_mem _ (ih h)
  rcases q_get_put hj with ⟨-, h2⟩ | ⟨-, h2, -⟩
  · exact hv w h2
  · exact h w (g h2)
theorem q_get_mem : ∀ {L : qLs} {j : Nat} {w : qV}, q_get L j = some w → some w ∈ L
  | [], j, w, h => by cases h
  | x :: xs, 0, w, h => List.mem_cons.mpr (Or.inl h.symm)
  | x :: xs, j + 1, w, h => List.mem_cons_of_mem _ (q_get_mem (L := xs) (j := j) h)
theorem q_get_has {arr : Array Slot} {ls : qLs} {a : Nat} {v : qV} (h : lv_has arr nL (q_enc G 0 ls)) (hv : q_get ls a = some v) : arr[a]? = some (.val (q_cv G v)) :=
  h.2.2 (a, q_cv G v) (q_enc_mem.mpr ⟨a, v, hv, by rw [Nat.zero_add]⟩)
/-- the machine at pc, with these locals, this stack, this store: it comes to Q -/
def q_At (p : Program) (l : Launch) (e : Env) (R : Room) (s : State) (m : MethodId) (args : Array Value) (below : List Frame) (meth : Method) (c : Code) (Q : State → Prop) (G : qG) (nL : Nat) (pc : Nat) (ls : qLs) (st : List qV) (S : qSt) : Prop :=
  ∀ (H : Heap) (locs : List Loc) (arr : Array Slot), q_H G S H → va_S (q_A G) s.heap H locs → lv_has arr nL (q_enc G 0 ls) → q_okl ls → q_oks st → W p l e R s m args below meth c H locs 0 0 Q (F0 m pc arr (st.map (q_cv G)))
def q_Cx (mt : Nat → Option qM) (p : Program) (l : Launch) (R : Room) (s : State) (m : MethodId) (args : Array Value) (c : Code) (G : qG) (cc : ByteArray) (nL : Nat) (own : String) (d : Nat) : Prop :=
  p.tables.exec = Jvm.exec ∧ c.code = cc ∧ c.maxLocals = nL ∧ s.vm.findClass own = some m.cls ∧ (∀ w ∈ q_TB, w.before args s = true) ∧ q_W G s ∧ (R.frames = d ∧ R.locals = 200 * d) ∧ (∀ f, q_fo f) ∧ q_E G s s.heap
theorem q_cel_set {S S' : qSt} {H H' : Heap} {f i : Nat} (hW : q_W G s) (hH : q_H G S H) (hi : i < q_cnt f) (hat : va_at G.2.2 vwCl (G.1 f i, q_cel G S' f i) H')
    (hoth : ∀ g j, ¬ (g = f ∧ j = i) → q_cel G S' g j = q_cel G S g j) (hq : ∀ q : Nat, q ≠ G.1 f i → H'[q]? = H[q]?) (hM : ∀ g j k h x, j < q_cnt g → q_fk g k = some (4, h, x) → q_M S' g j k < q_cnt h) : q_H G S' H' := by
  refine ⟨fun g j hj => ?_, hM⟩
  by_cases e : g = f ∧ j = i
  · obtain ⟨rfl, rfl⟩ := e
    exact hat
  · rw [hoth g j e]
    refine (hH.1 g j hj).kept (hq _ fun h => e ?_)
    exact hW.2.2 g j f i hj hi h
theorem q_fvs_get {S : qSt} {f i : Nat} : ∀ {ks : List (Nat × Nat × Nat × Nat)} {j0 j : Nat}, (q_fvs G S f i j0 ks)[j]? = (ks[j]?).map (fun k => q_fv G S f i (j0 + j) k)
  | [], j0, j => by simp [q_fvs]
  | k :: ks, j0, 0 => by simp [q_fvs]
  | k :: ks, j0, j + 1 => by
    simp only [q_fvs, List.getElem?_cons_succ]
    rw [q_fvs_get (ks := ks)]
    simp [Nat.add_assoc, Nat.add_comm 1 j]
theorem q_fvs_len {S : qSt} {f i : Nat} : ∀ {ks : List (Nat × Nat × Nat × Nat)} {j0 : Nat}, (q_fvs G S f i j0 ks).length = ks.length
  | [], j0 => rfl
  | k :: ks, j0 => by simp [q_fvs, q_fvs_len (ks := ks)]
end QS
