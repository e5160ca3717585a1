/-! The constructors' machine: its instructions -/
def k_kf (t : FieldType) (fin : Bool) (q : Nat) : Bool := match q with
  | 0 => decide (t = .int) && !fin
  | 2 => q_isR t && !fin
  | 3 => q_isR t && fin
  | 4 => decide (t = .long) && !fin
  | 5 => decide (t = .boolean) && !fin
  | _ => false
def k_co (ci : Nat) : Prop := ∃ (C : String) (T : u_T) (N : Nat) (ty : Nat → FieldType), vwCl[ci]? = some (C, T, N) ∧ (k_fd ci).length = N ∧ (∀ w ∈ u_ws C T N, w ∈ q_TB) ∧ (∀ k, k < N → parseFieldDescriptor (T k).2.2.1 = some (ty k)) ∧ (∀ a, a < N → ∀ b, b < N → a ≠ b → (T a).2.1 ≠ (T b).2.1) ∧ (∀ k, k < N → (T k).1 = C) ∧ Cond.instantiable C N ∈ q_TB ∧ Cond.initialized C ∈ q_TB ∧ ∀ j q, (k_fd ci)[j]? = some q → k_kf (ty j) (T j).2.2.2 q = true
def k_pok (own : String) (e : Nat × Nat × Nat × Nat) : Prop := match e with
  | (i, 7, ci, _) => ∀ C T N, vwCl[ci]? = some (C, T, N) → Cond.classLink own i C ∈ q_TB
  | (i, 8, 3, _) => Cond.classLink own i "BlockedCars$Position" ∈ q_TB
  | (i, 8, 4, _) => Cond.classLink own i "BlockedCars$Past" ∈ q_TB
  | (i, 9, _, _) => Cond.classLink own i "[[I" ∈ q_TB
  | (i, 10, _, _) => Cond.methodLink own i Lib.objectInit ∈ q_TB
  | (_, 11, ci, _) => ∀ C T N, vwCl[ci]? = some (C, T, N) → C = own
  | (i, 22, k, _) => ∃ q, q_mt k = some q ∧ Cond.methodLink own i q.1 ∈ q_TB ∧ Cond.instanceMethod q.1 ∈ q_TB ∧ Cond.initialized q.1.cls ∈ q_TB ∧ Cond.code q.1 q.2.1 q.2.2.1 none ∈ q_TB ∧ q.2.2.2 = none ∧ q.1.name = "<init>" ∧ (q.1.cls ≠ "java/lang/invoke/MethodHandle" ∧ q.1.cls ≠ "java/lang/invoke/VarHandle" ∧ (parseMethodDescriptor q.1.desc).map (fun d => d.parameters.length) = some 0) ∧ q.2.2.1 ≤ 150
  | (i, 23, k, _) => ∃ q, q_mt k = some q ∧ (own, i, q.1) ∈ k_nest ∧ Cond.instanceMethod q.1 ∈ q_TB ∧ Cond.initialized q.1.cls ∈ q_TB ∧ Cond.code q.1 q.2.1 q.2.2.1 none ∈ q_TB ∧ q.2.2.2 = none ∧ q.1.name = "<init>" ∧ (q.1.cls ≠ "java/lang/invoke/MethodHandle" ∧ q.1.cls ≠ "java/lang/invoke/VarHandle" ∧ (parseMethodDescriptor q.1.desc).map (fun d => d.parameters.length) = some 0) ∧ q.2.2.1 ≤ 150
  | (i, 0, ci, j) => q_cpok q_mt own (i, 0, ci, j)
  | (i, 1, k, n) => q_cpok q_mt own (i, 1, k, n) ∧ (vwCl[k_rc k]?).map (fun r => r.1) = (q_mt k).map (fun q => q.1.cls)
  | (i, 2, k, n) => q_cpok q_mt own (i, 2, k, n)
  | _ => False
def k_exp (cs : List (Nat × Int32)) (o : kO) (pc : Nat) : List (Instr × Nat) := match o with
  | (0, _, _, _, z) => [(.iconst z.toInt, 1)] ++ ((if (Int8.ofInt z.toInt).toInt32 = z then [(.bipush z.toInt, 2)] else []) ++ ((if (Int16.ofInt z.toInt).toInt32 = z then [(.sipush z.toInt, 3)] else []) ++ (cs.filter (fun e => decide (e.2 = z))).map (fun e => ((.ldc e.1, 2) : Instr × Nat))))
  | (1, a, _) => (.iload a, 2) :: (if a < 4 then [(.iload_n (Fin.ofNat 4 a), 1)] else [])
  | (2, a, _) => (.aload a, 2) :: (if a < 4 then [(.aload_n (Fin.ofNat 4 a), 1)] else [])
  | (3, a, _) => (.istore a, 2) :: (if a < 4 then [(.istore_n (Fin.ofNat 4 a), 1)] else [])
  | (4, a, _, _, z) => [(.iinc a z.toInt, 3)]
  | (5, _) => [(.iadd, 1)]
  | (6, _) => [(.ishl, 1)]
  | (7, _) => [(.dup, 1)]
  | (8, t, _) => [(.goto ((t : Int) - pc), 3)]
  | (9, t, _) => [(.if_icmp .ge ((t : Int) - pc), 3)]
  | (10, _, _, i, _) => [(.new i, 3)]
  | (11, 0, _) => [(.newarray .int, 2)]
  | (11, 1, _) => [(.newarray .byte, 2)]
  | (11, 2, _) => [(.newarray .long, 2)]
  | (12, _, _, i, _) => [(.anewarray i, 3)]
  | (13, _, _, i, _) => [(.multianewarray i 2, 4)]
  | (14, _, _, i, _) => [(.getfield i, 3)]
  | (15, _, _, i, _) => [(.putfield i, 3)]
  | (16, _) => [(.iaload, 1)]
  | (17, _) => [(.aaload, 1)]
  | (18, _) => [(.iastore, 1)]
  | (19, _) => [(.aastore, 1)]
  | (20, _) => [(.arraylength, 1)]
  | (21, _, _, i, _) => [(.invokespecial i, 3)]
  | (22, _, _, i, _) => [(.invokespecial i, 3)]
  | (23, _, _, i, _) => [(.invokespecial i, 3)]
  | (24, _, _, i, _) => [(.invokevirtual i, 3)]
  | (25, _) => [(.return_, 1)]
  | (26, _, _, i, _) => [(.invokestatic i, 3)]
  | _ => []
def k_pe (o : kO) : List (Nat × Nat × Nat × Nat) := match o with
  | (10, ci, _, i, _) => [(i, 7, ci, 0)]
  | (12, ty, _, i, _) => [(i, 8, ty, 0)]
  | (13, _, _, i, _) => [(i, 9, 0, 0)]
  | (14, ci, j, i, _) => [(i, 0, ci, j)]
  | (15, ci, j, i, _) => (i, 0, ci, j) :: (if (k_fd ci)[j]? = some 3 then [(0, 11, ci, 0)] else [])
  | (21, _, _, i, _) => [(i, 10, 0, 0)]
  | (22, k, _, i, _) => [(i, 22, k, 0)]
  | (23, k, _, i, _) => [(i, 23, k, 0)]
  | (24, k, n, i, _) => [(i, 1, k, n - 1)]
  | (26, k, n, i, _) => [(i, 2, k, n)]
  | _ => []
def k_cko (isC : Bool) (nL : Nat) (o : kO) : Bool := match o with
  | (3, a, _) => decide (a < nL)
  | (4, a, _) => decide (a < nL)
  | (10, ci, _) => decide (ci < 11)
  | (11, ty, _) => decide (ty < 3)
  | (12, ty, _) => decide (ty = 3) || decide (ty = 4)
  | (14, ci, j, _) => decide (ci < 11) && decide (j < (k_fd ci).length)
  | (15, ci, j, _) => decide (ci < 11) && (decide (j < (k_fd ci).length) && (isC || decide ((k_fd ci)[j]? ≠ some 3)))
  | (19, ty, ci, _) => (decide (ty = 3) && decide (ci = 3)) || (decide (ty = 4) && decide (ci = 2))
  | (22, _, n, _) => decide (n = 1)
  | (23, _, n, _) => decide (n = 1)
  | (24, _, n, _) => decide (0 < n)
  | _ => true
def k_ckl (cc : ByteArray) (P : List (Nat × Nat × Nat × Nat)) (cs : List (Nat × Int32)) (isC : Bool) (nL : Nat) : List (Nat × kO) → Bool
  | [] => true
  | (pc, o) :: r => (match decode cc pc with
    | .ok (i, len) => (k_exp cs o pc).any (fun x => decide (x = (i, len))) && ((k_pe o).all (fun e => decide (e ∈ P)) && (k_cko isC nL o && (match r with
      | [] => true
      | x :: _ => decide (x.1 = pc + len))))
    | _ => false) && k_ckl cc P cs isC nL r
def k_Cx (p : Program) (R : Room) (s : State) (m : MethodId) (args : Array Value) (meth : Method) (c : Code) (D : va_G) (base n0 : Nat) (cc : ByteArray) (nL : Nat) (own : String) (d : Nat) (isC : Bool) (P : List (Nat × Nat × Nat × Nat)) (cs : List (Nat × Int32)) (mc ms : Nat) : Prop :=
  (p.tables.exec = Jvm.exec ∧ c.code = cc ∧ c.maxLocals = nL ∧ s.vm.findClass own = some m.cls ∧ (∀ w ∈ q_TB, w.before args s = true)) ∧ (va_K D vwCl [] s ∧ k_X s) ∧ (R.frames = d ∧ R.locals = 200 * d ∧ R.cells = mc ∧ R.slots = ms) ∧ s.heap.size = base + n0 ∧ (meth.sig.returnType = none ∧ meth.locks = false ∧ (isC = true → meth.name = "<init>")) ∧ (∀ e ∈ P, k_pok own e) ∧ (∀ e ∈ cs, Cond.constant own e.1 e.2 ∈ q_TB)
def k_At (p : Program) (l : Launch) (e : Env) (R : Room) (s : State) (m : MethodId) (args : Array Value) (below : List Frame) (meth : Method) (c : Code) (Q : State → Prop) (D : va_G) (base n0 nL pc : Nat) (ls : qLs) (st : List qV) (kh : List kC) (cells slots : Nat) : Prop :=
  ∀ (H : Heap) (locs : List Loc) (arr : Array Slot) (cid : Nat → ClassId), k_HH D base cid s kh H → va_S (k_A base) s.heap H locs → lv_has arr nL (q_enc (gB D base) 0 ls) → kh.length = n0 + cells → W p l e R s m args below meth c H locs cells slots Q (F0 m pc arr (st.map (q_cv (gB D base))))
theorem k_HH_app {D : va_G} {base : Nat} {cid : Nat → ClassId} {s : State} {kh : List kC} {H1 : Heap} {cA : ClassId} {c : kC} (hP1 : va_P D vwCl (k_ws D base cid kh ++ [(base + kh.length, k_cel D base cA c)]) H1) (hT : k_TT s cid kh) (hc : ∀ ty n w, c = .inr (ty, n, w) → ArrOfT s cA (k_ty ty) ∧ va_RA s cA (k_ty ty)) : k_HH D base (k_upd cid kh.length cA) s (kh ++ [c]) H1 := by
  refine ⟨by rw [k_ws_app]; exact hP1, fun k ty n w hk => ?_⟩
  unfold k_upd
  by_cases e : k < kh.length
  · rw [List.getElem?_append_left e] at hk
    rw [if_neg (by omega)]
    exact hT k ty n w hk
  · rw [List.getElem?_append_right (by omega)] at hk
    have hl := (List.getElem?_eq_some_iff.mp hk).1
    have hl : k - kh.length < 1 := hl
    have e2 : k = kh.length := by omega
    subst e2
    rw [Nat.sub_self] at hk
    rw [if_pos rfl]
    exact hc ty n w (Option.some.inj hk)
theorem k_HH_set {D : va_G} {base : Nat} {cid : Nat → ClassId} {s : State} {kh : List kC} {H1 : Heap} {k : Nat} {c : kC} (hk : k < kh.length) (hP1 : va_P D vwCl ((k_ws D base cid kh).set k (base + k, k_cel D base (cid k) c)) H1) (hT : k_TT s cid kh) (hc : ∀ ty n w, c = .inr (ty, n, w) → ∃ n' w', kh[k]? = some (.inr (ty, n', w'))) : k_HH D base cid s (kh.set k c) H1 := by
  refine ⟨by rw [← k_ws_set hk]; exact hP1, fun j ty n w hj => ?_⟩
  rw [List.getElem?_set] at hj
  by_cases e : k = j
  · subst e
    rw [if_pos rfl, if_pos hk] at hj
    obtain ⟨n', w', h⟩ := hc ty n w (Option.some.inj hj)
    exact hT k ty n' w' h
  · rw [if_neg e] at hj
    exact hT j ty n w hj
theorem k_in {i : Int32} {n : Nat} (h : k_inb i n = true) : vp_in i n := by
  unfold k_inb at h
  simp only [Bool.and_eq_true, Bool.not_eq_true', decide_eq_false_iff_not, decide_eq_true_eq] at h
  exact fun q => q.elim h.1 (fun q => by omega)
section KT
variable {p : Program} {l : Launch} {e : Env} {R : Room} {s : State} {m : MethodId} {args : Array Value} {below : List Frame} {meth : Method} {c : Code} {Q : State → Prop} {D : va_G} {base n0 : Nat} {cc : ByteArray} {nL : Nat} {own : String} {d : Nat} {isC : Bool} {P : List (Nat × Nat × Nat × Nat)} {cs : List (Nat × Int32)} {mc ms : Nat}
variable {pc a b idx : Nat} {z : Int32} {ls : qLs} {st : List qV} {kh : List kC} {cells slots : Nat} {i : Instr} {len : Nat} {r : Option Nat × qLs × List qV × List kC × Nat × Nat}
/-- where the machine stands behind an instruction -/
def k_N (p : Program) (l : Launch) (e : Env) (R : Room) (s : State) (m : MethodId) (args : Array Value) (below : List Frame) (meth : Method) (c : Code) (Q : State → Prop) (D : va_G) (base n0 nL pc : Nat) (r : Option Nat × qLs × List qV × List kC × Nat × Nat) : Prop := k_At p l e R s m args below meth c Q D base n0 nL (match r.1 with | none => pc | some t => t) r.2.1 r.2.2.1 r.2.2.2.1 r.2.2.2.2.1 r.2.2.2.2.2
theorem k_s0 (Z : k_Cx p R s m args meth c D base n0 cc nL own d isC P cs mc ms) (hd : decode cc pc = .ok (i, len)) (he : (i, len) ∈ k_exp cs (0, a, b, idx, z) pc) (h : k_step k_fd (0, a, b, idx, z) ls st kh cells slots mc ms = some r) (hk : k_N p l e R s m args below meth c Q D base n0 nL (pc + len) r) : k_At p l e R s m args below meth c Q D base n0 nL pc ls st kh cells slots := by
  obtain ⟨⟨hx, hb, hml, hown, hts⟩, ⟨hK, hX⟩, hR, hsz, hm, hP, hcs⟩ := Z
  simp only [k_step] at h
  cases h
  intro H locs arr cid hH hS hl hn
  have h := hk H locs arr cid hH hS hl hn
  simp only [k_exp, List.mem_append, List.mem_cons, List.not_mem_nil, or_false, List.mem_map, List.mem_filter, decide_eq_true_eq] at he
  rcases he with he | he | he | he
  · cases he
    exact lv_iconst hx hb hd (by simp) h
  · split at he
    · rename_i g
      cases List.mem_singleton.mp he
      exact lv_bipush hx hb hd g h
    · cases he
  · split at he
    · rename_i g
      cases List.mem_singleton.mp he
      exact lv_sipush hx hb hd g h
    · cases he
  · obtain ⟨x, ⟨h1, h2⟩, h3⟩ := he
    cases h3
    exact lv_ldc hx hb hown (h2 ▸ hts _ (hcs x h1)) hd h
theorem k_s1 (Z : k_Cx p R s m args meth c D base n0 cc nL own d isC P cs mc ms) (hd : decode cc pc = .ok (i, len)) (he : (i, len) ∈ k_exp cs (1, a, b, idx, z) pc) (h : k_step k_fd (1, a, b, idx, z) ls st kh cells slots mc ms = some r) (hk : k_N p l e R s m args below meth c Q D base n0 nL (pc + len) r) : k_At p l e R s m args below meth c Q D base n0 nL pc ls st kh cells slots := by
  obtain ⟨⟨hx, hb, hml, hown, hts⟩, ⟨hK, hX⟩, hR, hsz, hm, hP, hcs⟩ := Z
  simp only [k_step] at h
  split at h
  · rename_i x hv
    cases h
    intro H locs arr cid hH hS hl hn
    have h := hk H locs arr cid hH hS hl hn
    simp only [k_exp, List.mem_cons] at he
    rcases he with he | he
    · cases he
      exact lv_iload hx hb hd (q_get_has hl hv) h
    · split at he
      · rename_i g
        cases List.mem_singleton.mp he
        exact lv_iload_n hx hb hd (Nat.mod_eq_of_lt g) (q_get_has hl hv) h
      · cases he
  · cases h
theorem k_s2 (Z : k_Cx p R s m args meth c D base n0 cc nL own d isC P cs mc ms) (hd : decode cc pc = .ok (i, len)) (he : (i, len) ∈ k_exp cs (2, a, b, idx, z) pc) (h : k_step k_fd (2, a, b, idx, z) ls st kh cells slots mc ms = some r) (hk : k_N p l e R s m args below meth c Q D base n0 nL (pc + len) r) : k_At p l e R s m args below meth c Q D base n0 nL pc ls st kh cells slots := by
  obtain ⟨⟨hx, hb, hml, hown, hts⟩, ⟨hK, hX⟩, hR, hsz, hm, hP, hcs⟩ := Z
  simp only [k_step] at h
  split at h
  · rename_i x hv
    cases h
    intro H locs arr cid hH hS hl hn
    have h := hk H locs arr cid hH hS hl hn
    simp only [k_exp, List.mem_cons] at he
    rcases he with he | he
    · cases he
      exact lv_aload hx hb hd (q_get_has hl hv) h
    · split at he
      · rename_i g
        cases List.mem_singleton.mp he
        exact lv_aload_n hx hb hd (Nat.mod_eq_of_lt g) (q_get_has hl hv) h
      · cases he
  · cases h
theorem k_s3 (Z : k_Cx p R s m args meth c D base n0 cc nL own d isC P cs mc ms) (hd : decode cc pc = .ok (i, len)) (he : (i, len) ∈ k_exp cs (3, a, b, idx, z) pc) (hc : k_cko isC nL (3, a, b, idx, z) = true) (h : k_step k_fd (3, a, b, idx, z) ls st kh cells slots mc ms = some r) (hk : k_N p l e R s m args below meth c Q D base n0 nL (pc + len) r) : k_At p l e R s m args below meth c Q D base n0 nL pc ls st kh cells slots := by
  obtain ⟨⟨hx, hb, hml, hown, hts⟩, ⟨hK, hX⟩, hR, hsz, hm, hP, hcs⟩ := Z
  have hlt := of_decide_eq_true hc
  simp only [k_step] at h
  split at h
  · rename_i x r9
    cases h
    intro H locs arr cid hH hS hl hn
    have kk : ∀ arr', lv_has arr' nL _ → _ := fun arr' hl' => hk H locs arr' cid hH hS (q_has1 (v := .inl x) hl') hn
    simp only [k_exp, List.mem_cons] at he
    rcases he with he | he
    · cases he
      exact lv_istore hx hb hd hl hlt rfl kk
    · split at he
      · rename_i g
        cases List.mem_singleton.mp he
        exact lv_istore_n hx hb hd (Nat.mod_eq_of_lt g) hl hlt rfl kk
      · cases he
  · cases h
theorem k_s4 (Z : k_Cx p R s m args meth c D base n0 cc nL own d isC P cs mc ms) (hd : decode cc pc = .ok (i, len)) (he : (i, len) ∈ k_exp cs (4, a, b, idx, z) pc) (hc : k_cko isC nL (4, a, b, idx, z) = true) (h : k_step k_fd (4, a, b, idx, z) ls st kh cells slots mc ms = some r) (hk : k_N p l e R s m args below meth c Q D base n0 nL (pc + len) r) : k_At p l e R s m args below meth c Q D base n0 nL pc ls st kh cells slots := by
  obtain ⟨⟨hx, hb, hml, hown, hts⟩, ⟨hK, hX⟩, hR, hsz, hm, hP, hcs⟩ := Z
  have hlt := of_decide_eq_true hc
  simp only [k_step] at h
  split at h
  · rename_i x hv
    cases h
    intro H locs arr cid hH hS hl hn
    simp only [k_exp, List.mem_cons, List.not_mem_nil, or_false] at he
    cases he
    obtain ⟨k, hk9⟩ := List.getElem?_of_mem (q_enc_mem (G := gB D base) (k := 0).mpr ⟨a, _, hv, by rw [Nat.zero_add]⟩)
    exact lv_iinc hx hb hd hl hk9 (by simp) hlt rfl (fun arr' hl' => hk H locs arr' cid hH hS (q_has1 (v := .inl (x + z)) hl') hn)
  · cases h
theorem k_s5 (Z : k_Cx p R s m args meth c D base n0 cc nL own d isC P cs mc ms) (hd : decode cc pc = .ok (i, len)) (he : (i, len) ∈ k_exp cs (5, a, b, idx, z) pc) (h : k_step k_fd (5, a, b, idx, z) ls st kh cells slots mc ms = some r) (hk : k_N p l e R s m args below meth c Q D base n0 nL (pc + len) r) : k_At p l e R s m args below meth c Q D base n0 nL pc ls st kh cells slots := by
  obtain ⟨⟨hx, hb, hml, hown, hts⟩, ⟨hK, hX⟩, hR, hsz, hm, hP, hcs⟩ := Z
  simp only [k_step] at h
  split at h
  · cases h
    intro H locs arr cid hH hS hl hn
    cases List.mem_singleton.mp he
    exact lv_iadd hx hb hd (hk H locs arr cid hH hS hl hn)
  · cases h
theorem k_s6 (Z : k_Cx p R s m args meth c D base n0 cc nL own d isC P cs mc ms) (hd : decode cc pc = .ok (i, len)) (he : (i, len) ∈ k_exp cs (6, a, b, idx, z) pc) (h : k_step k_fd (6, a, b, idx, z) ls st kh cells slots mc ms = some r) (hk : k_N p l e R s m args below meth c Q D base n0 nL (pc + len) r) : k_At p l e R s m args below meth c Q D base n0 nL pc ls st kh cells slots := by
  obtain ⟨⟨hx, hb, hml, hown, hts⟩, ⟨hK, hX⟩, hR, hsz, hm, hP, hcs⟩ := Z
  simp only [k_step] at h
  split at h
  · cases h
    intro H locs arr cid hH hS hl hn
    cases List.mem_singleton.mp he
    exact lv_ishl hx hb hd (hk H locs arr cid hH hS hl hn)
  · cases h
theorem k_s7 (Z : k_Cx p R s m args meth c D base n0 cc nL own d isC P cs mc ms) (hd : decode cc pc = .ok (i, len)) (he : (i, len) ∈ k_exp cs (7, a, b, idx, z) pc) (h : k_step k_fd (7, a, b, idx, z) ls st kh cells slots mc ms = some r) (hk : k_N p l e R s m args below meth c Q D base n0 nL (pc + len) r) : k_At p l e R s m args below meth c Q D base n0 nL pc ls st kh cells slots := by
  obtain ⟨⟨hx, hb, hml, hown, hts⟩, ⟨hK, hX⟩, hR, hsz, hm, hP, hcs⟩ := Z
  simp only [k_step] at h
  split at h
  · cases h
    intro H locs arr cid hH hS hl hn
    cases List.mem_singleton.mp he
    exact lv_dup hx hb hd rfl (hk H locs arr cid hH hS hl hn)
  · cases h
theorem k_s8 (Z : k_Cx p R s m args meth c D base n0 cc nL own d isC P cs mc ms) (hd : decode cc pc = .ok (i, len)) (he : (i, len) ∈ k_exp cs (8, a, b, idx, z) pc) (h : k_step k_fd (8, a, b, idx, z) ls st kh cells slots mc ms = some r) (hk : k_N p l e R s m args below meth c Q D base n0 nL (pc + len) r) : k_At p l e R s m args below meth c Q D base n0 nL pc ls st kh cells slots := by
  obtain ⟨⟨hx, hb, hml, hown, hts⟩, ⟨hK, hX⟩, hR, hsz, hm, hP, hcs⟩ := Z
  simp only [k_step] at h
  cases h
  intro H locs arr cid hH hS hl hn
  cases List.mem_singleton.mp he
  exact lv_goto (tgt := a) hx hb hd q_sx (hk H locs arr cid hH hS hl hn)
theorem k_s9 (Z : k_Cx p R s m args meth c D base n0 cc nL own d isC P cs mc ms) (hd : decode cc pc = .ok (i, len)) (he : (i, len) ∈ k_exp cs (9, a, b, idx, z) pc) (h : k_step k_fd (9, a, b, idx, z) ls st kh cells slots mc ms = some r) (hk : k_N p l e R s m args below meth c Q D base n0 nL (pc + len) r) : k_At p l e R s m args below meth c Q D base n0 nL pc ls st kh cells slots := by
  obtain ⟨⟨hx, hb, hml, hown, hts⟩, ⟨hK, hX⟩, hR, hsz, hm, hP, hcs⟩ := Z
  simp only [k_step] at h
  split at h
  · intro H locs arr cid hH hS hl hn
    cases List.mem_singleton.mp he
    split at h
    · rename_i hle
      cases h
      exact lv_icmp_ge (tgt := a) hx hb hd q_sx (fun _ => hk H locs arr cid hH hS hl hn) (fun q => absurd hle q)
    · rename_i hle
      cases h
      exact lv_icmp_ge (tgt := a) hx hb hd q_sx (fun q => absurd q hle) (fun _ => hk H locs arr cid hH hS hl hn)
  · cases h
end KT
