/-! The constructors' machine: cells by number, from a base on; its runs are closed -/
abbrev kW : Type := Option qV
abbrev kC : Type := (Nat × List kW) ⊕ (Nat × Nat × List (Nat × qV))
abbrev kO : Type := Nat × Nat × Nat × Nat × Int32
def k_look : List (Nat × qV) → Nat → Option qV
  | [], _ => none
  | (k, v) :: r, j => if k = j then some v else k_look r j
def k_int : Option qV → Int32
  | some (.inl x) => x
  | _ => 0
def k_ref (base : Nat) : Option qV → Option Nat
  | some (.inr (.inr p)) => some (base + p.2)
  | _ => none
/-- fields of a class: 0 int, 1 int final, 2 reference, 3 reference final, 4 long, 5 boolean -/
def k_df (q : Nat) : kW := match q with
  | 0 => some (.inl 0)
  | 1 => some (.inl 0)
  | 4 => some (.inr (.inl 0))
  | 5 => some (.inl 0)
  | _ => none
def k_from : List (Nat × kO) → Nat → List (Nat × kO)
  | [], _ => []
  | x :: r, pc => if x.1 = pc then x :: r else k_from r pc
def k_inb (i : Int32) (n : Nat) : Bool := !decide (i < 0) && decide (i.toNatClampNeg < n)
def k_fit (q : Option Nat) (v : qV) : Bool := match v with
  | .inl _ => q == some 0
  | .inr (.inl _) => false
  | .inr (.inr _) => q == some 2 || q == some 3
/-- one instruction: where to (none: the next), locals, stack, cells, counts -/
def k_step (fd : Nat → List Nat) (o : kO) (ls : qLs) (st : List qV) (kh : List kC) (cells slots mc ms : Nat) : Option (Option Nat × qLs × List qV × List kC × Nat × Nat) := match o with
  | (0, _, _, _, z) => some (none, ls, .inl z :: st, kh, cells, slots)
  | (1, a, _) => match q_get ls a with
    | some (.inl x) => some (none, ls, .inl x :: st, kh, cells, slots)
    | _ => none
  | (2, a, _) => match q_get ls a with
    | some (.inr (.inr x)) => some (none, ls, .inr (.inr x) :: st, kh, cells, slots)
    | _ => none
  | (3, a, _) => match st with
    | .inl x :: r => some (none, q_put ls a (some (.inl x)), r, kh, cells, slots)
    | _ => none
  | (4, a, _, _, z) => match q_get ls a with
    | some (.inl x) => some (none, q_put ls a (some (.inl (x + z))), st, kh, cells, slots)
    | _ => none
  | (5, _) => match st with
    | .inl y :: .inl x :: r => some (none, ls, .inl (x + y) :: r, kh, cells, slots)
    | _ => none
  | (6, _) => match st with
    | .inl y :: .inl x :: r => some (none, ls, .inl (x <<< (y &&& 31)) :: r, kh, cells, slots)
    | _ => none
  | (7, _) => match st with
    | .inr (.inr x) :: r => some (none, ls, .inr (.inr x) :: .inr (.inr x) :: r, kh, cells, slots)
    | _ => none
  | (8, t, _) => some (some t, ls, st, kh, cells, slots)
  | (9, t, _) => match st with
    | .inl y :: .inl x :: r => if y ≤ x then some (some t, ls, r, kh, cells, slots) else some (none, ls, r, kh, cells, slots)
    | _ => none
  | (10, ci, _) => if cells + 1 ≤ mc ∧ slots + (fd ci).length ≤ ms then some (none, ls, .inr (.inr (0, kh.length)) :: st, kh ++ [.inl (ci, (fd ci).map k_df)], cells + 1, slots + (fd ci).length) else none
  | (11, ty, _) => match st with
    | .inl x :: r => if (¬ x < 0 ∧ x.toNatClampNeg ≤ 60000000) ∧ cells + 1 ≤ mc ∧ slots + x.toNatClampNeg ≤ ms then some (none, ls, .inr (.inr (0, kh.length)) :: r, kh ++ [.inr (ty, x.toNatClampNeg, [])], cells + 1, slots + x.toNatClampNeg) else none
    | _ => none
  | (12, ty, _) => match st with
    | .inl x :: r => if (¬ x < 0 ∧ x.toNatClampNeg ≤ 60000000) ∧ cells + 1 ≤ mc ∧ slots + x.toNatClampNeg ≤ ms then some (none, ls, .inr (.inr (0, kh.length)) :: r, kh ++ [.inr (ty, x.toNatClampNeg, [])], cells + 1, slots + x.toNatClampNeg) else none
    | _ => none
  | (13, _) => match st with
    | .inl y :: .inl x :: r => if (¬ x < 0 ∧ ¬ y < 0 ∧ x.toNatClampNeg ≤ 1000 ∧ y.toNatClampNeg ≤ 1000) ∧ cells + (1 + x.toNatClampNeg) ≤ mc ∧ slots + (x.toNatClampNeg + x.toNatClampNeg * y.toNatClampNeg) ≤ ms then
        some (none, ls, .inr (.inr (0, kh.length)) :: r, kh ++ (.inr (5, x.toNatClampNeg, (List.range x.toNatClampNeg).map (fun j => (j, .inr (.inr (0, kh.length + 1 + j))))) :: List.replicate x.toNatClampNeg (.inr (0, y.toNatClampNeg, []))), cells + (1 + x.toNatClampNeg), slots + (x.toNatClampNeg + x.toNatClampNeg * y.toNatClampNeg)) else none
    | _ => none
  | (14, ci, j, _) => match st with
    | .inr (.inr x) :: r => match kh[x.2]? with
      | some (.inl (c, fs)) => if c = ci then match fs[j]? with
          | some (some v) => some (none, ls, v :: r, kh, cells, slots)
          | _ => none
        else none
      | _ => none
    | _ => none
  | (15, ci, j, _) => match st with
    | v :: .inr (.inr x) :: r => match kh[x.2]? with
      | some (.inl (c, fs)) => if c = ci ∧ j < fs.length ∧ k_fit (fd ci)[j]? v = true then some (none, ls, r, kh.set x.2 (.inl (c, fs.set j (some v))), cells, slots) else none
      | _ => none
    | _ => none
  | (16, _) => match st with
    | .inl i :: .inr (.inr x) :: r => match kh[x.2]? with
      | some (.inr (0, n, w)) => if k_inb i n = true then some (none, ls, .inl (k_int (k_look w i.toNatClampNeg)) :: r, kh, cells, slots) else none
      | _ => none
    | _ => none
  | (17, _) => match st with
    | .inl i :: .inr (.inr x) :: r => match kh[x.2]? with
      | some (.inr (5, n, w)) => if k_inb i n = true then match k_look w i.toNatClampNeg with
          | some (.inr (.inr y)) => some (none, ls, .inr (.inr y) :: r, kh, cells, slots)
          | _ => none
        else none
      | _ => none
    | _ => none
  | (18, _) => match st with
    | .inl v :: .inl i :: .inr (.inr x) :: r => match kh[x.2]? with
      | some (.inr (0, n, w)) => if k_inb i n = true then some (none, ls, r, kh.set x.2 (.inr (0, n, (i.toNatClampNeg, .inl v) :: w)), cells, slots) else none
      | _ => none
    | _ => none
  | (19, ty, ci, _) => match st with
    | .inr (.inr y) :: .inl i :: .inr (.inr x) :: r => match kh[x.2]?, kh[y.2]? with
      | some (.inr (t, n, w)), some (.inl (c, fs)) => if t = ty ∧ c = ci ∧ k_inb i n = true then some (none, ls, r, kh.set x.2 (.inr (t, n, (i.toNatClampNeg, .inr (.inr y)) :: w)), cells, slots) else none
      | _, _ => none
    | _ => none
  | (20, _) => match st with
    | .inr (.inr x) :: r => match kh[x.2]? with
      | some (.inr (t, n, w)) => if t < 6 then some (none, ls, .inl (Int32.ofNat n) :: r, kh, cells, slots) else none
      | _ => none
    | _ => none
  | (21, _) => match st with
    | .inr (.inr _) :: r => some (none, ls, r, kh, cells, slots)
    | _ => none
  | _ => none
/-- a method of the table: ops, maximal locals, cells, slots -/
abbrev kM : Type := List (Nat × kO) × Nat × Nat × Nat
/-- a call's receiver -/
def k_rok (rc : Nat → Nat) (kh : List kC) (o : kO) (st : List qV) : Bool := match o.1, (st.take o.2.2.1).reverse with
  | 22, [.inr (.inr _)] => true
  | 23, [.inr (.inr _)] => true
  | 24, .inr (.inr x) :: _ => match kh[x.2]? with
    | some (.inl (c, _)) => c == rc o.2.1
    | _ => false
  | 26, _ => true
  | _, _ => false
def k_ev (fd : Nat → List Nat) (rc : Nat → Nat) (mt : Nat → Option kM) : Nat → Nat → List (Nat × kO) → List (Nat × kO) → qLs → List qV → List kC → Nat → Nat → Nat → Nat → Option (List kC)
  | 0, _, _, _, _, _, _, _, _, _, _ => none
  | _ + 1, _, _, [], _, _, _, _, _, _, _ => none
  | f + 1, d, code, (_, o) :: os, ls, st, kh, cells, slots, mc, ms =>
    if o.1 = 25 then (if cells = mc ∧ slots ≤ ms ∧ st = [] then some kh else none)
    else if 22 ≤ o.1 then match mt o.2.1 with
      | some M => if 0 < d ∧ k_rok rc kh o st = true ∧ o.2.2.1 ≤ st.length ∧ q_w (st.drop o.2.2.1) ≤ 8 ∧ cells + M.2.2.1 ≤ mc ∧ slots + M.2.2.2 ≤ ms ∧ (q_ent (st.take o.2.2.1).reverse).length ≤ M.2.1 then
          match k_ev fd rc mt f (d - 1) M.1 M.1 (q_pad M.2.1 (q_ent (st.take o.2.2.1).reverse)) [] kh 0 0 M.2.2.1 M.2.2.2 with
          | some kh' => if kh'.length = kh.length + M.2.2.1 then k_ev fd rc mt f d code os ls (st.drop o.2.2.1) kh' (cells + M.2.2.1) (slots + M.2.2.2) mc ms else none
          | none => none
        else none
      | none => none
    else if d = 0 ∨ 9 < q_w st then none
    else match k_step fd o ls st kh cells slots mc ms with
      | some (none, ls', st', kh', c', s') => k_ev fd rc mt f d code os ls' st' kh' c' s' mc ms
      | some (some t, ls', st', kh', c', s') => k_ev fd rc mt f d code (k_from code t) ls' st' kh' c' s' mc ms
      | none => none
