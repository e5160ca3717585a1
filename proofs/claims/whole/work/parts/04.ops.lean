section QU

variable {mt : Nat → Option qM} {p : Program} {l : Launch} {e : Env} {R : Room} {s : State} {m : MethodId} {args : Array Value} {below : List Frame} {meth : Method} {c : Code} {Q : State → Prop} {G : qG} {cc : ByteArray} {nL : Nat} {own : String} {d : Nat}
variable {pc : Nat} {ls : qLs} {st : List qV} {S : qSt} {K : qK} {B : List Nat} {ret : Option FieldType} {rt : Nat} {post : Option qV → qSt → Prop} {mc ms : Nat}

/-- all that is fixed while a method's body runs -/
def q_Sx (mt : Nat → Option qM) (p : Program) (l : Launch) (e : Env) (R : Room) (s : State) (m : MethodId) (args : Array Value) (below : List Frame) (meth : Method) (c : Code) (Q : State → Prop) (G : qG) (cc : ByteArray) (nL : Nat) (own : String) (d : Nat) (K : qK) (ret : Option FieldType) (rt : Nat) (post : Option qV → qSt → Prop) (mc ms : Nat) : Prop :=
  q_Cx mt p l R s m args c G cc nL own d ∧ q_kok mt own K ∧ meth.sig.returnType = ret ∧ meth.locks = false ∧
  ∀ H locs g, W p l e R s m args below meth c H locs mc ms (MQ below (q_Qc G rt post) args s mc ms (q_A G)) g → W p l e R s m args below meth c H locs 0 0 Q g

/-- the answer's kind and the method's type -/
def q_rtok (rt : Nat) (ret : Option FieldType) : Bool := match rt, ret with
  | 0, none => true
  | 1, some .int => true
  | 1, some .boolean => true
  | 2, some .long => true
  | 1, some .byte => true
  | 1, some .char => true
  | n + 3, some (.object _) => decide (n < 97)
  | _, _ => false
theorem q_rt0 {rt : Nat} (h : q_rtok rt none = true) : rt = 0 := match rt, h with
  | 0, _ => rfl
  | 1, h => by cases h
  | 2, h => by cases h
  | _ + 3, h => by cases h
theorem q_rt1 {rt : Nat} (h : q_rtok rt (some .int) = true) : rt = 1 := match rt, h with
  | 0, h => by cases h
  | 1, _ => rfl
  | 2, h => by cases h
  | _ + 3, h => by cases h
theorem q_rt1z {rt : Nat} (h : q_rtok rt (some .boolean) = true) : rt = 1 := match rt, h with
  | 0, h => by cases h
  | 1, _ => rfl
  | 2, h => by cases h
  | _ + 3, h => by cases h
theorem q_rt2 {rt : Nat} (h : q_rtok rt (some .long) = true) : rt = 2 := match rt, h with
  | 0, h => by cases h
  | 1, h => by cases h
  | 2, _ => rfl
  | _ + 3, h => by cases h
theorem q_rt1b {rt : Nat} (h : q_rtok rt (some .byte) = true) : rt = 1 := match rt, h with
  | 0, h => by cases h
  | 1, _ => rfl
  | 2, h => by cases h
  | _ + 3, h => by cases h
theorem q_rt1c {rt : Nat} (h : q_rtok rt (some .char) = true) : rt = 1 := match rt, h with
  | 0, h => by cases h
  | 1, _ => rfl
  | 2, h => by cases h
  | _ + 3, h => by cases h
theorem q_sx {a b : Nat} : (a : Int) + ((b : Int) - a) = (b : Int) := by omega

set_option maxHeartbeats 1000000 in
theorem q_s0 (Z : q_Sx mt p l e R s m args below meth c Q G cc nL own d K ret rt post mc ms) {a b dd : Nat} {z : Int32} {zl : Int64} {w : List (Int32 × Nat)} {i : Instr} {len : Nat} (hd : decode cc pc = .ok (i, len)) (he : (i, len) ∈ q_exp K B len (0, pc, a, b, dd, z, zl, w)) (hc : q_ckx mt nL ret (0, pc, a, b, dd, z, zl, w) = true) (hrt : q_rtok rt ret = true)
    (h : q_op mt l d rt (fun b ls st S => q_At p l e R s m args below meth c Q G nL (q_bp B b) ls st S) post (0, pc, a, b, dd, z, zl, w) ls st S (fun ls st S => q_At p l e R s m args below meth c Q G nL (pc + len) ls st S)) : q_At p l e R s m args below meth c Q G nL (pc) ls st S := by
  obtain ⟨X, hK, hret, hlocks, hQ⟩ := Z
  obtain ⟨hx, hb, hml, hown, hts, hW, hR, hfo, hE⟩ := id X
  intro H locs arr hH hS hl hol hos
  have h : q_At p l e R s m args below meth c Q G nL (pc + len) ls (.inl z :: st) S := h
  have hk := fun pc' (h : q_At p l e R s m args below meth c Q G nL (pc') ls (.inl z :: st) S) => h H locs arr hH hS hl hol (q_okT trivial hos)
  simp only [q_exp, List.mem_append, List.mem_cons, List.not_mem_nil, or_false, List.mem_map, List.mem_filter, decide_eq_true_eq] at he
  rcases he with (he | he | he) | he | he
  · cases he
    exact lv_iconst hx hb hd (by simp) (hk _ h)
  · split at he
    · rename_i g
      cases List.mem_singleton.mp he
      exact lv_bipush hx hb hd g (hk _ h)
    · cases he
  · split at he
    · rename_i g
      cases List.mem_singleton.mp he
      exact lv_sipush hx hb hd g (hk _ h)
    · cases he
  · obtain ⟨x, ⟨h1, h2⟩, h3⟩ := he
    cases h3
    exact lv_ldc hx hb hown (h2 ▸ hts _ (hK.2.1 x h1)) hd (hk _ h)
  · obtain ⟨x, ⟨h1, h2⟩, h3⟩ := he
    cases h3
    exact lv_ldcw hx hb hown (h2 ▸ hts _ (hK.2.1 x h1)) hd (hk _ h)

set_option maxHeartbeats 1000000 in
theorem q_s1 (Z : q_Sx mt p l e R s m args below meth c Q G cc nL own d K ret rt post mc ms) {a b dd : Nat} {z : Int32} {zl : Int64} {w : List (Int32 × Nat)} {i : Instr} {len : Nat} (hd : decode cc pc = .ok (i, len)) (he : (i, len) ∈ q_exp K B len (1, pc, a, b, dd, z, zl, w)) (hc : q_ckx mt nL ret (1, pc, a, b, dd, z, zl, w) = true) (hrt : q_rtok rt ret = true)
    (h : q_op mt l d rt (fun b ls st S => q_At p l e R s m args below meth c Q G nL (q_bp B b) ls st S) post (1, pc, a, b, dd, z, zl, w) ls st S (fun ls st S => q_At p l e R s m args below meth c Q G nL (pc + len) ls st S)) : q_At p l e R s m args below meth c Q G nL (pc) ls st S := by
  obtain ⟨X, hK, hret, hlocks, hQ⟩ := Z
  obtain ⟨hx, hb, hml, hown, hts, hW, hR, hfo, hE⟩ := id X
  intro H locs arr hH hS hl hol hos
  have h : q_At p l e R s m args below meth c Q G nL (pc + len) ls (.inr (.inl zl) :: st) S := h
  have hk := fun pc' (h : q_At p l e R s m args below meth c Q G nL (pc') ls (.inr (.inl zl) :: st) S) => h H locs arr hH hS hl hol (q_okT trivial hos)
  simp only [q_exp, List.mem_append, List.mem_cons, List.not_mem_nil, or_false, List.mem_map, List.mem_filter, decide_eq_true_eq] at he
  rcases he with (he | he) | he
  · split at he
    · rename_i g
      cases List.mem_singleton.mp he
      exact lv_lconst hx hb hd (by rw [g]; rfl) (hk _ h)
    · cases he
  · split at he
    · rename_i g
      cases List.mem_singleton.mp he
      exact lv_lconst hx hb hd (by rw [g]; rfl) (hk _ h)
    · cases he
  · obtain ⟨x, ⟨h1, h2⟩, h3⟩ := he
    cases h3
    exact lv_ldc2 hx hb hown (h2 ▸ hts _ (hK.2.2.1 x h1)) hd (hk _ h)

set_option maxHeartbeats 1000000 in
theorem q_s2 (Z : q_Sx mt p l e R s m args below meth c Q G cc nL own d K ret rt post mc ms) {a b dd : Nat} {z : Int32} {zl : Int64} {w : List (Int32 × Nat)} {i : Instr} {len : Nat} (hd : decode cc pc = .ok (i, len)) (he : (i, len) ∈ q_exp K B len (2, pc, a, b, dd, z, zl, w)) (hc : q_ckx mt nL ret (2, pc, a, b, dd, z, zl, w) = true) (hrt : q_rtok rt ret = true)
    (h : q_op mt l d rt (fun b ls st S => q_At p l e R s m args below meth c Q G nL (q_bp B b) ls st S) post (2, pc, a, b, dd, z, zl, w) ls st S (fun ls st S => q_At p l e R s m args below meth c Q G nL (pc + len) ls st S)) : q_At p l e R s m args below meth c Q G nL (pc) ls st S := by
  obtain ⟨X, hK, hret, hlocks, hQ⟩ := Z
  obtain ⟨hx, hb, hml, hown, hts, hW, hR, hfo, hE⟩ := id X
  intro H locs arr hH hS hl hol hos
  have h : q_ldI (q_get ls a) (fun v => q_At p l e R s m args below meth c Q G nL (pc + len) ls (v :: st) S) := h
  cases hv : q_get ls a with
  | none => rw [hv] at h; exact h.elim
  | some v =>
    rw [hv] at h
    rcases v with x | x | x
    case inr.inl => exact h.elim
    case inr.inr => exact h.elim
    have h : q_At p l e R s m args below meth c Q G nL (pc + len) ls (.inl x :: st) S := h
    simp only [q_exp, List.mem_cons] at he
    rcases he with he | he
    · cases he
      exact lv_iload hx hb hd (q_get_has hl hv) (h H locs arr hH hS hl hol (q_okT trivial hos))
    · split at he
      · rename_i g
        cases List.mem_singleton.mp he
        exact lv_iload_n hx hb hd (Nat.mod_eq_of_lt g) (q_get_has hl hv) (h H locs arr hH hS hl hol (q_okT trivial hos))
      · cases he

set_option maxHeartbeats 1000000 in
theorem q_s3 (Z : q_Sx mt p l e R s m args below meth c Q G cc nL own d K ret rt post mc ms) {a b dd : Nat} {z : Int32} {zl : Int64} {w : List (Int32 × Nat)} {i : Instr} {len : Nat} (hd : decode cc pc = .ok (i, len)) (he : (i, len) ∈ q_exp K B len (3, pc, a, b, dd, z, zl, w)) (hc : q_ckx mt nL ret (3, pc, a, b, dd, z, zl, w) = true) (hrt : q_rtok rt ret = true)
    (h : q_op mt l d rt (fun b ls st S => q_At p l e R s m args below meth c Q G nL (q_bp B b) ls st S) post (3, pc, a, b, dd, z, zl, w) ls st S (fun ls st S => q_At p l e R s m args below meth c Q G nL (pc + len) ls st S)) : q_At p l e R s m args below meth c Q G nL (pc) ls st S := by
  obtain ⟨X, hK, hret, hlocks, hQ⟩ := Z
  obtain ⟨hx, hb, hml, hown, hts, hW, hR, hfo, hE⟩ := id X
  intro H locs arr hH hS hl hol hos
  have h : q_ldL (q_get ls a) (fun v => q_At p l e R s m args below meth c Q G nL (pc + len) ls (v :: st) S) := h
  cases hv : q_get ls a with
  | none => rw [hv] at h; exact h.elim
  | some v =>
    rw [hv] at h
    rcases v with x | x | x
    case inl => exact h.elim
    case inr.inr => exact h.elim
    have h : q_At p l e R s m args below meth c Q G nL (pc + len) ls (.inr (.inl x) :: st) S := h
    simp only [q_exp, List.mem_cons] at he
    rcases he with he | he
    · cases he
      exact lv_lload hx hb hd (q_get_has hl hv) (h H locs arr hH hS hl hol (q_okT trivial hos))
    · split at he
      · rename_i g
        cases List.mem_singleton.mp he
        exact lv_lload_n hx hb hd (Nat.mod_eq_of_lt g) (q_get_has hl hv) (h H locs arr hH hS hl hol (q_okT trivial hos))
      · cases he

set_option maxHeartbeats 1000000 in
theorem q_s4 (Z : q_Sx mt p l e R s m args below meth c Q G cc nL own d K ret rt post mc ms) {a b dd : Nat} {z : Int32} {zl : Int64} {w : List (Int32 × Nat)} {i : Instr} {len : Nat} (hd : decode cc pc = .ok (i, len)) (he : (i, len) ∈ q_exp K B len (4, pc, a, b, dd, z, zl, w)) (hc : q_ckx mt nL ret (4, pc, a, b, dd, z, zl, w) = true) (hrt : q_rtok rt ret = true)
    (h : q_op mt l d rt (fun b ls st S => q_At p l e R s m args below meth c Q G nL (q_bp B b) ls st S) post (4, pc, a, b, dd, z, zl, w) ls st S (fun ls st S => q_At p l e R s m args below meth c Q G nL (pc + len) ls st S)) : q_At p l e R s m args below meth c Q G nL (pc) ls st S := by
  obtain ⟨X, hK, hret, hlocks, hQ⟩ := Z
  obtain ⟨hx, hb, hml, hown, hts, hW, hR, hfo, hE⟩ := id X
  intro H locs arr hH hS hl hol hos
  have h : q_ldR (q_get ls a) (fun v => q_At p l e R s m args below meth c Q G nL (pc + len) ls (v :: st) S) := h
  cases hv : q_get ls a with
  | none => rw [hv] at h; exact h.elim
  | some v =>
    rw [hv] at h
    rcases v with x | x | x
    case inl => exact h.elim
    case inr.inl => exact h.elim
    have h : q_At p l e R s m args below meth c Q G nL (pc + len) ls (.inr (.inr x) :: st) S := h
    simp only [q_exp, List.mem_cons] at he
    rcases he with he | he
    · cases he
      exact lv_aload hx hb hd (q_get_has hl hv) (h H locs arr hH hS hl hol (q_okT (hol _ (q_get_mem hv)) hos))
    · split at he
      · rename_i g
        cases List.mem_singleton.mp he
        exact lv_aload_n hx hb hd (Nat.mod_eq_of_lt g) (q_get_has hl hv) (h H locs arr hH hS hl hol (q_okT (hol _ (q_get_mem hv)) hos))
      · cases he

set_option maxHeartbeats 1000000 in
theorem q_s5 (Z : q_Sx mt p l e R s m args below meth c Q G cc nL own d K ret rt post mc ms) {a b dd : Nat} {z : Int32} {zl : Int64} {w : List (Int32 × Nat)} {i : Instr} {len : Nat} (hd : decode cc pc = .ok (i, len)) (he : (i, len) ∈ q_exp K B len (5, pc, a, b, dd, z, zl, w)) (hc : q_ckx mt nL ret (5, pc, a, b, dd, z, zl, w) = true) (hrt : q_rtok rt ret = true)
    (h : q_op mt l d rt (fun b ls st S => q_At p l e R s m args below meth c Q G nL (q_bp B b) ls st S) post (5, pc, a, b, dd, z, zl, w) ls st S (fun ls st S => q_At p l e R s m args below meth c Q G nL (pc + len) ls st S)) : q_At p l e R s m args below meth c Q G nL (pc) ls st S := by
  obtain ⟨X, hK, hret, hlocks, hQ⟩ := Z
  obtain ⟨hx, hb, hml, hown, hts, hW, hR, hfo, hE⟩ := id X
  intro H locs arr hH hS hl hol hos
  have hlt := of_decide_eq_true hc
  rcases st with _ | ⟨v, r⟩
  · exact h.elim
  · rcases v with x | x | x
    case cons.inr.inl => exact h.elim
    case cons.inr.inr => exact h.elim
    have h : q_At p l e R s m args below meth c Q G nL (pc + len) (q_put ls a (some (.inl x))) r S := h
    have kk : ∀ arr', lv_has arr' nL _ → _ := fun arr' hl' => h H locs arr' hH hS (q_has1 hl') (q_put_okl hol (fun w e => by cases e; trivial)) (q_okD hos)
    simp only [q_exp, List.mem_cons] at he
    rcases he with he | he
    · cases he
      exact lv_istore hx hb hd hl hlt rfl kk
    · split at he
      · rename_i g
        cases List.mem_singleton.mp he
        exact lv_istore_n hx hb hd (Nat.mod_eq_of_lt g) hl hlt rfl kk
      · cases he

set_option maxHeartbeats 1000000 in
theorem q_s6 (Z : q_Sx mt p l e R s m args below meth c Q G cc nL own d K ret rt post mc ms) {a b dd : Nat} {z : Int32} {zl : Int64} {w : List (Int32 × Nat)} {i : Instr} {len : Nat} (hd : decode cc pc = .ok (i, len)) (he : (i, len) ∈ q_exp K B len (6, pc, a, b, dd, z, zl, w)) (hc : q_ckx mt nL ret (6, pc, a, b, dd, z, zl, w) = true) (hrt : q_rtok rt ret = true)
    (h : q_op mt l d rt (fun b ls st S => q_At p l e R s m args below meth c Q G nL (q_bp B b) ls st S) post (6, pc, a, b, dd, z, zl, w) ls st S (fun ls st S => q_At p l e R s m args below meth c Q G nL (pc + len) ls st S)) : q_At p l e R s m args below meth c Q G nL (pc) ls st S := by
  obtain ⟨X, hK, hret, hlocks, hQ⟩ := Z
  obtain ⟨hx, hb, hml, hown, hts, hW, hR, hfo, hE⟩ := id X
  intro H locs arr hH hS hl hol hos
  have hlt := of_decide_eq_true hc
  rcases st with _ | ⟨v, r⟩
  · exact h.elim
  · rcases v with x | x | x
    case cons.inl => exact h.elim
    case cons.inr.inr => exact h.elim
    have h : q_At p l e R s m args below meth c Q G nL (pc + len) (q_put (q_put ls (a + 1) none) a (some (.inr (.inl x)))) r S := h
    have kk : ∀ arr', lv_has arr' nL _ → _ := fun arr' hl' => h H locs arr' hH hS (q_has2 hl') (q_put_okl (q_put_okl hol (fun w e => by cases e)) (fun w e => by cases e; trivial)) (q_okD hos)
    simp only [q_exp, List.mem_cons] at he
    rcases he with he | he
    · cases he
      exact lv_lstore hx hb hd hl hlt rfl kk
    · split at he
      · rename_i g
        cases List.mem_singleton.mp he
        exact lv_lstore_n hx hb hd (Nat.mod_eq_of_lt g) hl hlt rfl kk
      · cases he

set_option maxHeartbeats 1000000 in
theorem q_s7 (Z : q_Sx mt p l e R s m args below meth c Q G cc nL own d K ret rt post mc ms) {a b dd : Nat} {z : Int32} {zl : Int64} {w : List (Int32 × Nat)} {i : Instr} {len : Nat} (hd : decode cc pc = .ok (i, len)) (he : (i, len) ∈ q_exp K B len (7, pc, a, b, dd, z, zl, w)) (hc : q_ckx mt nL ret (7, pc, a, b, dd, z, zl, w) = true) (hrt : q_rtok rt ret = true)
    (h : q_op mt l d rt (fun b ls st S => q_At p l e R s m args below meth c Q G nL (q_bp B b) ls st S) post (7, pc, a, b, dd, z, zl, w) ls st S (fun ls st S => q_At p l e R s m args below meth c Q G nL (pc + len) ls st S)) : q_At p l e R s m args below meth c Q G nL (pc) ls st S := by
  obtain ⟨X, hK, hret, hlocks, hQ⟩ := Z
  obtain ⟨hx, hb, hml, hown, hts, hW, hR, hfo, hE⟩ := id X
  intro H locs arr hH hS hl hol hos
  have hlt := of_decide_eq_true hc
  rcases st with _ | ⟨v, r⟩
  · exact h.elim
  · rcases v with x | x | x
    case cons.inl => exact h.elim
    case cons.inr.inl => exact h.elim
    have h : q_At p l e R s m args below meth c Q G nL (pc + len) (q_put ls a (some (.inr (.inr x)))) r S := h
    have kk : ∀ arr', lv_has arr' nL _ → _ := fun arr' hl' => h H locs arr' hH hS (q_has1 hl') (q_put_okl hol (fun w e => by cases e; exact q_okH hos)) (q_okD hos)
    simp only [q_exp, List.mem_cons] at he
    rcases he with he | he
    · cases he
      exact lv_astore hx hb hd hl hlt rfl kk
    · split at he
      · rename_i g
        cases List.mem_singleton.mp he
        exact lv_astore_n hx hb hd (Nat.mod_eq_of_lt g) hl hlt rfl kk
      · cases he

set_option maxHeartbeats 1000000 in
theorem q_s8 (Z : q_Sx mt p l e R s m args below meth c Q G cc nL own d K ret rt post mc ms) {a b dd : Nat} {z : Int32} {zl : Int64} {w : List (Int32 × Nat)} {i : Instr} {len : Nat} (hd : decode cc pc = .ok (i, len)) (he : (i, len) ∈ q_exp K B len (8, pc, a, b, dd, z, zl, w)) (hc : q_ckx mt nL ret (8, pc, a, b, dd, z, zl, w) = true) (hrt : q_rtok rt ret = true)
    (h : q_op mt l d rt (fun b ls st S => q_At p l e R s m args below meth c Q G nL (q_bp B b) ls st S) post (8, pc, a, b, dd, z, zl, w) ls st S (fun ls st S => q_At p l e R s m args below meth c Q G nL (pc + len) ls st S)) : q_At p l e R s m args below meth c Q G nL (pc) ls st S := by
  obtain ⟨X, hK, hret, hlocks, hQ⟩ := Z
  obtain ⟨hx, hb, hml, hown, hts, hW, hR, hfo, hE⟩ := id X
  intro H locs arr hH hS hl hol hos
  have hlt := of_decide_eq_true hc
  have h : q_inc (q_get ls a) z (fun v => q_At p l e R s m args below meth c Q G nL (pc + len) (q_put ls a (some v)) st S) := h
  cases hv : q_get ls a with
  | none => rw [hv] at h; exact h.elim
  | some v =>
    rw [hv] at h
    rcases v with x | x | x
    case inr.inl => exact h.elim
    case inr.inr => exact h.elim
    have h : q_At p l e R s m args below meth c Q G nL (pc + len) (q_put ls a (some (.inl (x + z)))) st S := h
    simp only [q_exp, List.mem_cons, List.not_mem_nil, or_false] at he
    cases he
    obtain ⟨k, hk⟩ := List.getElem?_of_mem (q_enc_mem (G := G) (k := 0).mpr ⟨a, _, hv, by rw [Nat.zero_add]⟩)
    exact lv_iinc hx hb hd hl hk (by simp) hlt rfl (fun arr' hl' => h H locs arr' hH hS (q_has1 (v := .inl (x + z)) hl') (q_put_okl hol (fun w e => by cases e; trivial)) hos)

set_option maxHeartbeats 1000000 in
theorem q_s9 (Z : q_Sx mt p l e R s m args below meth c Q G cc nL own d K ret rt post mc ms) {a b dd : Nat} {z : Int32} {zl : Int64} {w : List (Int32 × Nat)} {i : Instr} {len : Nat} (hd : decode cc pc = .ok (i, len)) (he : (i, len) ∈ q_exp K B len (9, pc, a, b, dd, z, zl, w)) (hc : q_ckx mt nL ret (9, pc, a, b, dd, z, zl, w) = true) (hrt : q_rtok rt ret = true)
    (h : q_op mt l d rt (fun b ls st S => q_At p l e R s m args below meth c Q G nL (q_bp B b) ls st S) post (9, pc, a, b, dd, z, zl, w) ls st S (fun ls st S => q_At p l e R s m args below meth c Q G nL (pc + len) ls st S)) : q_At p l e R s m args below meth c Q G nL (pc) ls st S := by
  obtain ⟨X, hK, hret, hlocks, hQ⟩ := Z
  obtain ⟨hx, hb, hml, hown, hts, hW, hR, hfo, hE⟩ := id X
  intro H locs arr hH hS hl hol hos
  rcases st with _ | ⟨v1, _ | ⟨v2, r⟩⟩
  · exact h.elim
  · rcases v1 with x | x | x <;> exact h.elim
  · rcases v1 with y | y | y <;> rcases v2 with x | x | x
    case cons.cons.inl.inr.inl => exact h.elim
    case cons.cons.inl.inr.inr => exact h.elim
    case cons.cons.inr.inl.inl => exact h.elim
    case cons.cons.inr.inl.inr.inl => exact h.elim
    case cons.cons.inr.inl.inr.inr => exact h.elim
    case cons.cons.inr.inr.inl => exact h.elim
    case cons.cons.inr.inr.inr.inl => exact h.elim
    case cons.cons.inr.inr.inr.inr => exact h.elim
    have h : q_At p l e R s m args below meth c Q G nL (pc + len) ls (.inl (q_bin a x y) :: r) S := h
    have kk := h H locs arr hH hS hl hol (q_okT trivial (q_okD (q_okD hos)))
    match a, he, kk with
    | 0, he, kk => cases List.mem_singleton.mp he; exact lv_iadd hx hb hd kk
    | 1, he, kk => cases List.mem_singleton.mp he; exact lv_isub hx hb hd kk
    | 2, he, kk => cases List.mem_singleton.mp he; exact lv_imul hx hb hd kk
    | 3, he, kk => cases List.mem_singleton.mp he; exact lv_iand hx hb hd kk
    | 4, he, kk => cases List.mem_singleton.mp he; exact lv_ior hx hb hd kk
    | 5, he, kk => cases List.mem_singleton.mp he; exact lv_ixor hx hb hd kk
    | 6, he, kk => cases List.mem_singleton.mp he; exact lv_ishl hx hb hd kk
    | 7, he, kk => cases List.mem_singleton.mp he; exact lv_ishr hx hb hd kk
    | 8, he, kk => cases List.mem_singleton.mp he; exact lv_iushr hx hb hd rfl kk
    | n + 9, he, kk => cases he

set_option maxHeartbeats 1000000 in
theorem q_s10 (Z : q_Sx mt p l e R s m args below meth c Q G cc nL own d K ret rt post mc ms) {a b dd : Nat} {z : Int32} {zl : Int64} {w : List (Int32 × Nat)} {i : Instr} {len : Nat} (hd : decode cc pc = .ok (i, len)) (he : (i, len) ∈ q_exp K B len (10, pc, a, b, dd, z, zl, w)) (hc : q_ckx mt nL ret (10, pc, a, b, dd, z, zl, w) = true) (hrt : q_rtok rt ret = true)
    (h : q_op mt l d rt (fun b ls st S => q_At p l e R s m args below meth c Q G nL (q_bp B b) ls st S) post (10, pc, a, b, dd, z, zl, w) ls st S (fun ls st S => q_At p l e R s m args below meth c Q G nL (pc + len) ls st S)) : q_At p l e R s m args below meth c Q G nL (pc) ls st S := by
  obtain ⟨X, hK, hret, hlocks, hQ⟩ := Z
  obtain ⟨hx, hb, hml, hown, hts, hW, hR, hfo, hE⟩ := id X
  intro H locs arr hH hS hl hol hos
  rcases st with _ | ⟨v1, _ | ⟨v2, r⟩⟩
  · exact h.elim
  · rcases v1 with x | x | x <;> exact h.elim
  · rcases v1 with y | y | y <;> rcases v2 with x | x | x
    case cons.cons.inl.inr.inl => exact h.elim
    case cons.cons.inl.inr.inr => exact h.elim
    case cons.cons.inr.inl.inl => exact h.elim
    case cons.cons.inr.inl.inr.inl => exact h.elim
    case cons.cons.inr.inl.inr.inr => exact h.elim
    case cons.cons.inr.inr.inl => exact h.elim
    case cons.cons.inr.inr.inr.inl => exact h.elim
    case cons.cons.inr.inr.inr.inr => exact h.elim
    obtain ⟨h0, h⟩ : ¬ y = 0 ∧ q_At p l e R s m args below meth c Q G nL (pc + len) ls (.inl (x / y) :: r) S := h
    cases List.mem_singleton.mp he
    exact lv_idiv hx hb hd h0 (h H locs arr hH hS hl hol (q_okT trivial (q_okD (q_okD hos))))

set_option maxHeartbeats 1000000 in
theorem q_s11 (Z : q_Sx mt p l e R s m args below meth c Q G cc nL own d K ret rt post mc ms) {a b dd : Nat} {z : Int32} {zl : Int64} {w : List (Int32 × Nat)} {i : Instr} {len : Nat} (hd : decode cc pc = .ok (i, len)) (he : (i, len) ∈ q_exp K B len (11, pc, a, b, dd, z, zl, w)) (hc : q_ckx mt nL ret (11, pc, a, b, dd, z, zl, w) = true) (hrt : q_rtok rt ret = true)
    (h : q_op mt l d rt (fun b ls st S => q_At p l e R s m args below meth c Q G nL (q_bp B b) ls st S) post (11, pc, a, b, dd, z, zl, w) ls st S (fun ls st S => q_At p l e R s m args below meth c Q G nL (pc + len) ls st S)) : q_At p l e R s m args below meth c Q G nL (pc) ls st S := by
  obtain ⟨X, hK, hret, hlocks, hQ⟩ := Z
  obtain ⟨hx, hb, hml, hown, hts, hW, hR, hfo, hE⟩ := id X
  intro H locs arr hH hS hl hol hos
  rcases st with _ | ⟨v1, _ | ⟨v2, r⟩⟩
  · exact h.elim
  · rcases v1 with x | x | x <;> exact h.elim
  · rcases v1 with y | y | y <;> rcases v2 with x | x | x
    case cons.cons.inl.inr.inl => exact h.elim
    case cons.cons.inl.inr.inr => exact h.elim
    case cons.cons.inr.inl.inl => exact h.elim
    case cons.cons.inr.inl.inr.inl => exact h.elim
    case cons.cons.inr.inl.inr.inr => exact h.elim
    case cons.cons.inr.inr.inl => exact h.elim
    case cons.cons.inr.inr.inr.inl => exact h.elim
    case cons.cons.inr.inr.inr.inr => exact h.elim
    obtain ⟨h0, h⟩ : ¬ y = 0 ∧ q_At p l e R s m args below meth c Q G nL (pc + len) ls (.inl (x - x / y * y) :: r) S := h
    cases List.mem_singleton.mp he
    exact lv_irem hx hb hd h0 (h H locs arr hH hS hl hol (q_okT trivial (q_okD (q_okD hos))))

set_option maxHeartbeats 1000000 in
theorem q_s12 (Z : q_Sx mt p l e R s m args below meth c Q G cc nL own d K ret rt post mc ms) {a b dd : Nat} {z : Int32} {zl : Int64} {w : List (Int32 × Nat)} {i : Instr} {len : Nat} (hd : decode cc pc = .ok (i, len)) (he : (i, len) ∈ q_exp K B len (12, pc, a, b, dd, z, zl, w)) (hc : q_ckx mt nL ret (12, pc, a, b, dd, z, zl, w) = true) (hrt : q_rtok rt ret = true)
    (h : q_op mt l d rt (fun b ls st S => q_At p l e R s m args below meth c Q G nL (q_bp B b) ls st S) post (12, pc, a, b, dd, z, zl, w) ls st S (fun ls st S => q_At p l e R s m args below meth c Q G nL (pc + len) ls st S)) : q_At p l e R s m args below meth c Q G nL (pc) ls st S := by
  obtain ⟨X, hK, hret, hlocks, hQ⟩ := Z
  obtain ⟨hx, hb, hml, hown, hts, hW, hR, hfo, hE⟩ := id X
  intro H locs arr hH hS hl hol hos
  rcases st with _ | ⟨v1, _ | ⟨v2, r⟩⟩
  · exact h.elim
  · rcases v1 with x | x | x <;> exact h.elim
  · rcases v1 with y | y | y <;> rcases v2 with x | x | x
    case cons.cons.inl.inl => exact h.elim
    case cons.cons.inl.inr.inl => exact h.elim
    case cons.cons.inl.inr.inr => exact h.elim
    case cons.cons.inr.inl.inl => exact h.elim
    case cons.cons.inr.inl.inr.inr => exact h.elim
    case cons.cons.inr.inr.inl => exact h.elim
    case cons.cons.inr.inr.inr.inl => exact h.elim
    case cons.cons.inr.inr.inr.inr => exact h.elim
    have h : q_At p l e R s m args below meth c Q G nL (pc + len) ls (.inr (.inl (q_binL a x y)) :: r) S := h
    have kk := h H locs arr hH hS hl hol (q_okT trivial (q_okD (q_okD hos)))
    match a, he, kk with
    | 0, he, kk => cases List.mem_singleton.mp he; exact lv_ladd hx hb hd kk
    | 1, he, kk => cases List.mem_singleton.mp he; exact lv_lsub hx hb hd kk
    | 2, he, kk => cases List.mem_singleton.mp he; exact lv_lmul hx hb hd kk
    | 3, he, kk => cases List.mem_singleton.mp he; exact lv_land hx hb hd kk
    | 4, he, kk => cases List.mem_singleton.mp he; exact lv_lor hx hb hd kk
    | 5, he, kk => cases List.mem_singleton.mp he; exact lv_lxor hx hb hd kk
    | n + 6, he, kk => cases he

set_option maxHeartbeats 1000000 in
theorem q_s13 (Z : q_Sx mt p l e R s m args below meth c Q G cc nL own d K ret rt post mc ms) {a b dd : Nat} {z : Int32} {zl : Int64} {w : List (Int32 × Nat)} {i : Instr} {len : Nat} (hd : decode cc pc = .ok (i, len)) (he : (i, len) ∈ q_exp K B len (13, pc, a, b, dd, z, zl, w)) (hc : q_ckx mt nL ret (13, pc, a, b, dd, z, zl, w) = true) (hrt : q_rtok rt ret = true)
    (h : q_op mt l d rt (fun b ls st S => q_At p l e R s m args below meth c Q G nL (q_bp B b) ls st S) post (13, pc, a, b, dd, z, zl, w) ls st S (fun ls st S => q_At p l e R s m args below meth c Q G nL (pc + len) ls st S)) : q_At p l e R s m args below meth c Q G nL (pc) ls st S := by
  obtain ⟨X, hK, hret, hlocks, hQ⟩ := Z
  obtain ⟨hx, hb, hml, hown, hts, hW, hR, hfo, hE⟩ := id X
  intro H locs arr hH hS hl hol hos
  rcases st with _ | ⟨v1, _ | ⟨v2, r⟩⟩
  · exact h.elim
  · rcases v1 with x | x | x <;> exact h.elim
  · rcases v1 with y | y | y <;> rcases v2 with x | x | x
    case cons.cons.inl.inl => exact h.elim
    case cons.cons.inl.inr.inr => exact h.elim
    case cons.cons.inr.inl.inl => exact h.elim
    case cons.cons.inr.inl.inr.inl => exact h.elim
    case cons.cons.inr.inl.inr.inr => exact h.elim
    case cons.cons.inr.inr.inl => exact h.elim
    case cons.cons.inr.inr.inr.inl => exact h.elim
    case cons.cons.inr.inr.inr.inr => exact h.elim
    have h : q_At p l e R s m args below meth c Q G nL (pc + len) ls (.inr (.inl (q_shL a x y)) :: r) S := h
    have kk := h H locs arr hH hS hl hol (q_okT trivial (q_okD (q_okD hos)))
    match a, he, kk with
    | 0, he, kk => cases List.mem_singleton.mp he; exact lv_lshl hx hb hd rfl kk
    | 1, he, kk => cases List.mem_singleton.mp he; exact lv_lshr hx hb hd rfl kk
    | 2, he, kk => cases List.mem_singleton.mp he; exact lv_lushr hx hb hd rfl kk
    | n + 3, he, kk => cases he

set_option maxHeartbeats 1000000 in
theorem q_s14 (Z : q_Sx mt p l e R s m args below meth c Q G cc nL own d K ret rt post mc ms) {a b dd : Nat} {z : Int32} {zl : Int64} {w : List (Int32 × Nat)} {i : Instr} {len : Nat} (hd : decode cc pc = .ok (i, len)) (he : (i, len) ∈ q_exp K B len (14, pc, a, b, dd, z, zl, w)) (hc : q_ckx mt nL ret (14, pc, a, b, dd, z, zl, w) = true) (hrt : q_rtok rt ret = true)
    (h : q_op mt l d rt (fun b ls st S => q_At p l e R s m args below meth c Q G nL (q_bp B b) ls st S) post (14, pc, a, b, dd, z, zl, w) ls st S (fun ls st S => q_At p l e R s m args below meth c Q G nL (pc + len) ls st S)) : q_At p l e R s m args below meth c Q G nL (pc) ls st S := by
  obtain ⟨X, hK, hret, hlocks, hQ⟩ := Z
  obtain ⟨hx, hb, hml, hown, hts, hW, hR, hfo, hE⟩ := id X
  intro H locs arr hH hS hl hol hos
  rcases st with _ | ⟨v, r⟩
  · exact h.elim
  · rcases v with x | x | x
    case cons.inr.inl => exact h.elim
    case cons.inr.inr => exact h.elim
    have h : q_At p l e R s m args below meth c Q G nL (pc + len) ls (.inl (-x) :: r) S := h
    cases List.mem_singleton.mp he
    exact lv_ineg hx hb hd (h H locs arr hH hS hl hol (q_okT trivial (q_okD hos)))

set_option maxHeartbeats 1000000 in
theorem q_s15 (Z : q_Sx mt p l e R s m args below meth c Q G cc nL own d K ret rt post mc ms) {a b dd : Nat} {z : Int32} {zl : Int64} {w : List (Int32 × Nat)} {i : Instr} {len : Nat} (hd : decode cc pc = .ok (i, len)) (he : (i, len) ∈ q_exp K B len (15, pc, a, b, dd, z, zl, w)) (hc : q_ckx mt nL ret (15, pc, a, b, dd, z, zl, w) = true) (hrt : q_rtok rt ret = true)
    (h : q_op mt l d rt (fun b ls st S => q_At p l e R s m args below meth c Q G nL (q_bp B b) ls st S) post (15, pc, a, b, dd, z, zl, w) ls st S (fun ls st S => q_At p l e R s m args below meth c Q G nL (pc + len) ls st S)) : q_At p l e R s m args below meth c Q G nL (pc) ls st S := by
  obtain ⟨X, hK, hret, hlocks, hQ⟩ := Z
  obtain ⟨hx, hb, hml, hown, hts, hW, hR, hfo, hE⟩ := id X
  intro H locs arr hH hS hl hol hos
  rcases st with _ | ⟨v, r⟩
  · exact h.elim
  · rcases v with x | x | x
    case cons.inr.inl => exact h.elim
    case cons.inr.inr => exact h.elim
    have h : q_At p l e R s m args below meth c Q G nL (pc + len) ls (.inl x.toInt8.toInt32 :: r) S := h
    cases List.mem_singleton.mp he
    exact lv_i2b hx hb hd rfl (h H locs arr hH hS hl hol (q_okT trivial (q_okD hos)))

set_option maxHeartbeats 1000000 in
theorem q_s16 (Z : q_Sx mt p l e R s m args below meth c Q G cc nL own d K ret rt post mc ms) {a b dd : Nat} {z : Int32} {zl : Int64} {w : List (Int32 × Nat)} {i : Instr} {len : Nat} (hd : decode cc pc = .ok (i, len)) (he : (i, len) ∈ q_exp K B len (16, pc, a, b, dd, z, zl, w)) (hc : q_ckx mt nL ret (16, pc, a, b, dd, z, zl, w) = true) (hrt : q_rtok rt ret = true)
    (h : q_op mt l d rt (fun b ls st S => q_At p l e R s m args below meth c Q G nL (q_bp B b) ls st S) post (16, pc, a, b, dd, z, zl, w) ls st S (fun ls st S => q_At p l e R s m args below meth c Q G nL (pc + len) ls st S)) : q_At p l e R s m args below meth c Q G nL (pc) ls st S := by
  obtain ⟨X, hK, hret, hlocks, hQ⟩ := Z
  obtain ⟨hx, hb, hml, hown, hts, hW, hR, hfo, hE⟩ := id X
  intro H locs arr hH hS hl hol hos
  rcases st with _ | ⟨v, r⟩
  · exact h.elim
  · rcases v with x | x | x
    case cons.inr.inl => exact h.elim
    case cons.inr.inr => exact h.elim
    have h : q_At p l e R s m args below meth c Q G nL (pc + len) ls (.inr (.inl x.toInt64) :: r) S := h
    cases List.mem_singleton.mp he
    exact lv_i2l hx hb hd rfl (h H locs arr hH hS hl hol (q_okT trivial (q_okD hos)))

set_option maxHeartbeats 1000000 in
theorem q_s17 (Z : q_Sx mt p l e R s m args below meth c Q G cc nL own d K ret rt post mc ms) {a b dd : Nat} {z : Int32} {zl : Int64} {w : List (Int32 × Nat)} {i : Instr} {len : Nat} (hd : decode cc pc = .ok (i, len)) (he : (i, len) ∈ q_exp K B len (17, pc, a, b, dd, z, zl, w)) (hc : q_ckx mt nL ret (17, pc, a, b, dd, z, zl, w) = true) (hrt : q_rtok rt ret = true)
    (h : q_op mt l d rt (fun b ls st S => q_At p l e R s m args below meth c Q G nL (q_bp B b) ls st S) post (17, pc, a, b, dd, z, zl, w) ls st S (fun ls st S => q_At p l e R s m args below meth c Q G nL (pc + len) ls st S)) : q_At p l e R s m args below meth c Q G nL (pc) ls st S := by
  obtain ⟨X, hK, hret, hlocks, hQ⟩ := Z
  obtain ⟨hx, hb, hml, hown, hts, hW, hR, hfo, hE⟩ := id X
  intro H locs arr hH hS hl hol hos
  rcases st with _ | ⟨v, r⟩
  · exact h.elim
  · rcases v with x | x | x
    case cons.inl => exact h.elim
    case cons.inr.inr => exact h.elim
    have h : q_At p l e R s m args below meth c Q G nL (pc + len) ls (.inl x.toInt32 :: r) S := h
    cases List.mem_singleton.mp he
    exact lv_l2i hx hb hd rfl (h H locs arr hH hS hl hol (q_okT trivial (q_okD hos)))

set_option maxHeartbeats 1000000 in
theorem q_s18 (Z : q_Sx mt p l e R s m args below meth c Q G cc nL own d K ret rt post mc ms) {a b dd : Nat} {z : Int32} {zl : Int64} {w : List (Int32 × Nat)} {i : Instr} {len : Nat} (hd : decode cc pc = .ok (i, len)) (he : (i, len) ∈ q_exp K B len (18, pc, a, b, dd, z, zl, w)) (hc : q_ckx mt nL ret (18, pc, a, b, dd, z, zl, w) = true) (hrt : q_rtok rt ret = true)
    (h : q_op mt l d rt (fun b ls st S => q_At p l e R s m args below meth c Q G nL (q_bp B b) ls st S) post (18, pc, a, b, dd, z, zl, w) ls st S (fun ls st S => q_At p l e R s m args below meth c Q G nL (pc + len) ls st S)) : q_At p l e R s m args below meth c Q G nL (pc) ls st S := by
  obtain ⟨X, hK, hret, hlocks, hQ⟩ := Z
  obtain ⟨hx, hb, hml, hown, hts, hW, hR, hfo, hE⟩ := id X
  intro H locs arr hH hS hl hol hos
  rcases st with _ | ⟨v1, _ | ⟨v2, r⟩⟩
  · exact h.elim
  · rcases v1 with x | x | x <;> exact h.elim
  · rcases v1 with y | y | y <;> rcases v2 with x | x | x
    case cons.cons.inl.inl => exact h.elim
    case cons.cons.inl.inr.inl => exact h.elim
    case cons.cons.inl.inr.inr => exact h.elim
    case cons.cons.inr.inl.inl => exact h.elim
    case cons.cons.inr.inl.inr.inr => exact h.elim
    case cons.cons.inr.inr.inl => exact h.elim
    case cons.cons.inr.inr.inr.inl => exact h.elim
    case cons.cons.inr.inr.inr.inr => exact h.elim
    have h : q_At p l e R s m args below meth c Q G nL (pc + len) ls (.inl (lg_cmp x y) :: r) S := h
    cases List.mem_singleton.mp he
    exact W.lcmp hx hb hd (h H locs arr hH hS hl hol (q_okT trivial (q_okD (q_okD hos))))

set_option maxHeartbeats 1000000 in
theorem q_s19 (Z : q_Sx mt p l e R s m args below meth c Q G cc nL own d K ret rt post mc ms) {a b dd : Nat} {z : Int32} {zl : Int64} {w : List (Int32 × Nat)} {i : Instr} {len : Nat} (hd : decode cc pc = .ok (i, len)) (he : (i, len) ∈ q_exp K B len (19, pc, a, b, dd, z, zl, w)) (hc : q_ckx mt nL ret (19, pc, a, b, dd, z, zl, w) = true) (hrt : q_rtok rt ret = true)
    (h : q_op mt l d rt (fun b ls st S => q_At p l e R s m args below meth c Q G nL (q_bp B b) ls st S) post (19, pc, a, b, dd, z, zl, w) ls st S (fun ls st S => q_At p l e R s m args below meth c Q G nL (pc + len) ls st S)) : q_At p l e R s m args below meth c Q G nL (pc) ls st S := by
  obtain ⟨X, hK, hret, hlocks, hQ⟩ := Z
  obtain ⟨hx, hb, hml, hown, hts, hW, hR, hfo, hE⟩ := id X
  intro H locs arr hH hS hl hol hos
  cases List.mem_singleton.mp he
  rcases st with _ | ⟨v, r⟩
  · exact h.elim
  · rcases v with x | x | x
    · exact lv_dup hx hb hd rfl (h H locs arr hH hS hl hol (q_okT trivial hos))
    · exact h.elim
    · exact lv_dup hx hb hd rfl (h H locs arr hH hS hl hol (q_okT (q_okH hos) hos))

set_option maxHeartbeats 1000000 in
theorem q_s20 (Z : q_Sx mt p l e R s m args below meth c Q G cc nL own d K ret rt post mc ms) {a b dd : Nat} {z : Int32} {zl : Int64} {w : List (Int32 × Nat)} {i : Instr} {len : Nat} (hd : decode cc pc = .ok (i, len)) (he : (i, len) ∈ q_exp K B len (20, pc, a, b, dd, z, zl, w)) (hc : q_ckx mt nL ret (20, pc, a, b, dd, z, zl, w) = true) (hrt : q_rtok rt ret = true)
    (h : q_op mt l d rt (fun b ls st S => q_At p l e R s m args below meth c Q G nL (q_bp B b) ls st S) post (20, pc, a, b, dd, z, zl, w) ls st S (fun ls st S => q_At p l e R s m args below meth c Q G nL (pc + len) ls st S)) : q_At p l e R s m args below meth c Q G nL (pc) ls st S := by
  obtain ⟨X, hK, hret, hlocks, hQ⟩ := Z
  obtain ⟨hx, hb, hml, hown, hts, hW, hR, hfo, hE⟩ := id X
  intro H locs arr hH hS hl hol hos
  rcases st with _ | ⟨v1, _ | ⟨v2, r⟩⟩
  · exact h.elim
  · rcases v1 with x | x | x <;> exact h.elim
  · rcases v1 with y | y | y <;> rcases v2 with x | x | x
    case cons.cons.inl.inl => exact h.elim
    case cons.cons.inl.inr.inl => exact h.elim
    case cons.cons.inr.inl.inl => exact h.elim
    case cons.cons.inr.inl.inr.inl => exact h.elim
    case cons.cons.inr.inl.inr.inr => exact h.elim
    case cons.cons.inr.inr.inl => exact h.elim
    case cons.cons.inr.inr.inr.inl => exact h.elim
    case cons.cons.inr.inr.inr.inr => exact h.elim
    cases List.mem_singleton.mp he
    exact lv_dup2_11 hx hb hd rfl rfl (h H locs arr hH hS hl hol (q_okT trivial (q_okT (q_okH (q_okD hos)) hos)))

set_option maxHeartbeats 1000000 in
theorem q_s21 (Z : q_Sx mt p l e R s m args below meth c Q G cc nL own d K ret rt post mc ms) {a b dd : Nat} {z : Int32} {zl : Int64} {w : List (Int32 × Nat)} {i : Instr} {len : Nat} (hd : decode cc pc = .ok (i, len)) (he : (i, len) ∈ q_exp K B len (21, pc, a, b, dd, z, zl, w)) (hc : q_ckx mt nL ret (21, pc, a, b, dd, z, zl, w) = true) (hrt : q_rtok rt ret = true)
    (h : q_op mt l d rt (fun b ls st S => q_At p l e R s m args below meth c Q G nL (q_bp B b) ls st S) post (21, pc, a, b, dd, z, zl, w) ls st S (fun ls st S => q_At p l e R s m args below meth c Q G nL (pc + len) ls st S)) : q_At p l e R s m args below meth c Q G nL (pc) ls st S := by
  obtain ⟨X, hK, hret, hlocks, hQ⟩ := Z
  obtain ⟨hx, hb, hml, hown, hts, hW, hR, hfo, hE⟩ := id X
  intro H locs arr hH hS hl hol hos
  cases List.mem_singleton.mp he
  rcases st with _ | ⟨v, r⟩
  · exact h.elim
  · rcases v with x | x | x
    · exact lv_pop hx hb hd rfl (h H locs arr hH hS hl hol (q_okD hos))
    · exact h.elim
    · exact lv_pop hx hb hd rfl (h H locs arr hH hS hl hol (q_okD hos))

set_option maxHeartbeats 1000000 in
theorem q_s22 (Z : q_Sx mt p l e R s m args below meth c Q G cc nL own d K ret rt post mc ms) {a b dd : Nat} {z : Int32} {zl : Int64} {w : List (Int32 × Nat)} {i : Instr} {len : Nat} (hd : decode cc pc = .ok (i, len)) (he : (i, len) ∈ q_exp K B len (22, pc, a, b, dd, z, zl, w)) (hc : q_ckx mt nL ret (22, pc, a, b, dd, z, zl, w) = true) (hrt : q_rtok rt ret = true)
    (h : q_op mt l d rt (fun b ls st S => q_At p l e R s m args below meth c Q G nL (q_bp B b) ls st S) post (22, pc, a, b, dd, z, zl, w) ls st S (fun ls st S => q_At p l e R s m args below meth c Q G nL (pc + len) ls st S)) : q_At p l e R s m args below meth c Q G nL (pc) ls st S := by
  obtain ⟨X, hK, hret, hlocks, hQ⟩ := Z
  obtain ⟨hx, hb, hml, hown, hts, hW, hR, hfo, hE⟩ := id X
  intro H locs arr hH hS hl hol hos
  rcases st with _ | ⟨v, r⟩
  · exact h.elim
  · rcases v with x | x | x
    case cons.inr.inl => exact h.elim
    case cons.inr.inr => exact h.elim
    cases List.mem_singleton.mp he
    have h : q_if a x 0 (q_At p l e R s m args below meth c Q G nL (q_bp B b) ls r S) (q_At p l e R s m args below meth c Q G nL (pc + 3) ls r S) := h
    have k := fun pc' (h : q_At p l e R s m args below meth c Q G nL (pc') ls r S) => h H locs arr hH hS hl hol (q_okD hos)
    match a, hd, h with
    | 0, hd, h => exact lv_if_eq hx hb hd q_sx (fun q => k _ (h.1 q)) (fun q => k _ (h.2 q))
    | 1, hd, h => exact lv_if_ne hx hb hd q_sx (fun q => k _ (h.1 q)) (fun q => k _ (h.2 q))
    | 2, hd, h => exact lv_if_lt hx hb hd q_sx (fun q => k _ (h.1 q)) (fun q => k _ (h.2 q))
    | 3, hd, h => exact lv_if_ge hx hb hd q_sx (fun q => k _ (h.1 q)) (fun q => k _ (h.2 q))
    | 4, hd, h => exact lv_if_gt hx hb hd q_sx (fun q => k _ (h.1 q)) (fun q => k _ (h.2 q))
    | n + 5, hd, h => exact lv_if_le hx hb hd q_sx (fun q => k _ (h.1 q)) (fun q => k _ (h.2 q))

set_option maxHeartbeats 1000000 in
theorem q_s23 (Z : q_Sx mt p l e R s m args below meth c Q G cc nL own d K ret rt post mc ms) {a b dd : Nat} {z : Int32} {zl : Int64} {w : List (Int32 × Nat)} {i : Instr} {len : Nat} (hd : decode cc pc = .ok (i, len)) (he : (i, len) ∈ q_exp K B len (23, pc, a, b, dd, z, zl, w)) (hc : q_ckx mt nL ret (23, pc, a, b, dd, z, zl, w) = true) (hrt : q_rtok rt ret = true)
    (h : q_op mt l d rt (fun b ls st S => q_At p l e R s m args below meth c Q G nL (q_bp B b) ls st S) post (23, pc, a, b, dd, z, zl, w) ls st S (fun ls st S => q_At p l e R s m args below meth c Q G nL (pc + len) ls st S)) : q_At p l e R s m args below meth c Q G nL (pc) ls st S := by
  obtain ⟨X, hK, hret, hlocks, hQ⟩ := Z
  obtain ⟨hx, hb, hml, hown, hts, hW, hR, hfo, hE⟩ := id X
  intro H locs arr hH hS hl hol hos
  rcases st with _ | ⟨v1, _ | ⟨v2, r⟩⟩
  · exact h.elim
  · rcases v1 with x | x | x <;> exact h.elim
  · rcases v1 with y | y | y <;> rcases v2 with x | x | x
    case cons.cons.inl.inr.inl => exact h.elim
    case cons.cons.inl.inr.inr => exact h.elim
    case cons.cons.inr.inl.inl => exact h.elim
    case cons.cons.inr.inl.inr.inl => exact h.elim
    case cons.cons.inr.inl.inr.inr => exact h.elim
    case cons.cons.inr.inr.inl => exact h.elim
    case cons.cons.inr.inr.inr.inl => exact h.elim
    case cons.cons.inr.inr.inr.inr => exact h.elim
    cases List.mem_singleton.mp he
    have h : q_if a x y (q_At p l e R s m args below meth c Q G nL (q_bp B b) ls r S) (q_At p l e R s m args below meth c Q G nL (pc + 3) ls r S) := h
    have k := fun pc' (h : q_At p l e R s m args below meth c Q G nL (pc') ls r S) => h H locs arr hH hS hl hol (q_okD (q_okD hos))
    match a, hd, h with
    | 0, hd, h => exact lv_icmp_eq hx hb hd q_sx (fun q => k _ (h.1 q)) (fun q => k _ (h.2 q))
    | 1, hd, h => exact lv_icmp_ne hx hb hd q_sx (fun q => k _ (h.1 q)) (fun q => k _ (h.2 q))
    | 2, hd, h => exact lv_icmp_lt hx hb hd q_sx (fun q => k _ (h.1 q)) (fun q => k _ (h.2 q))
    | 3, hd, h => exact lv_icmp_ge hx hb hd q_sx (fun q => k _ (h.1 q)) (fun q => k _ (h.2 q))
    | 4, hd, h => exact lv_icmp_gt hx hb hd q_sx (fun q => k _ (h.1 q)) (fun q => k _ (h.2 q))
    | n + 5, hd, h => exact lv_icmp_le hx hb hd q_sx (fun q => k _ (h.1 q)) (fun q => k _ (h.2 q))

set_option maxHeartbeats 1000000 in
theorem q_s24 (Z : q_Sx mt p l e R s m args below meth c Q G cc nL own d K ret rt post mc ms) {a b dd : Nat} {z : Int32} {zl : Int64} {w : List (Int32 × Nat)} {i : Instr} {len : Nat} (hd : decode cc pc = .ok (i, len)) (he : (i, len) ∈ q_exp K B len (24, pc, a, b, dd, z, zl, w)) (hc : q_ckx mt nL ret (24, pc, a, b, dd, z, zl, w) = true) (hrt : q_rtok rt ret = true)
    (h : q_op mt l d rt (fun b ls st S => q_At p l e R s m args below meth c Q G nL (q_bp B b) ls st S) post (24, pc, a, b, dd, z, zl, w) ls st S (fun ls st S => q_At p l e R s m args below meth c Q G nL (pc + len) ls st S)) : q_At p l e R s m args below meth c Q G nL (pc) ls st S := by
  obtain ⟨X, hK, hret, hlocks, hQ⟩ := Z
  obtain ⟨hx, hb, hml, hown, hts, hW, hR, hfo, hE⟩ := id X
  intro H locs arr hH hS hl hol hos
  cases List.mem_singleton.mp he
  exact lv_goto hx hb hd q_sx (h H locs arr hH hS hl hol hos)

set_option maxHeartbeats 1000000 in
theorem q_s26 (Z : q_Sx mt p l e R s m args below meth c Q G cc nL own d K ret rt post mc ms) {a b dd : Nat} {z : Int32} {zl : Int64} {w : List (Int32 × Nat)} {i : Instr} {len : Nat} (hd : decode cc pc = .ok (i, len)) (he : (i, len) ∈ q_exp K B len (26, pc, a, b, dd, z, zl, w)) (hc : q_ckx mt nL ret (26, pc, a, b, dd, z, zl, w) = true) (hrt : q_rtok rt ret = true)
    (h : q_op mt l d rt (fun b ls st S => q_At p l e R s m args below meth c Q G nL (q_bp B b) ls st S) post (26, pc, a, b, dd, z, zl, w) ls st S (fun ls st S => q_At p l e R s m args below meth c Q G nL (pc + len) ls st S)) : q_At p l e R s m args below meth c Q G nL (pc) ls st S := by
  obtain ⟨X, hK, hret, hlocks, hQ⟩ := Z
  obtain ⟨hx, hb, hml, hown, hts, hW, hR, hfo, hE⟩ := id X
  intro H locs arr hH hS hl hol hos
  rcases st with _ | ⟨v, r⟩
  · exact h.elim
  · rcases v with x | x | x
    case cons.inl => exact h.elim
    case cons.inr.inl => exact h.elim
    obtain ⟨g, i0⟩ := x
    obtain ⟨rfl, h⟩ : g = a ∧ q_At p l e R s m args below meth c Q G nL (pc + len) ls (.inl (q_I S a i0 b) :: r) S := h
    simp only [q_exp, List.mem_map, List.mem_filter, decide_eq_true_eq] at he
    obtain ⟨y, ⟨h1, h2, h3, h4⟩, h5⟩ := he
    cases h5
    obtain ⟨idx, y1, y2, y3⟩ := y
    dsimp only at h2 h3 h4
    subst h2; subst h3; subst h4
    simp only [q_ckx, Bool.or_eq_true, decide_eq_true_eq, Option.map_eq_some_iff] at hc
    rcases hc with ⟨k, hk, hk0⟩ | ⟨k, hk, hk0⟩ <;> obtain ⟨k1, k2⟩ := k <;> dsimp only at hk0 <;> subst hk0 <;>
    exact q_read X hK hH (q_okA (q_okH hos) (q_fk_lt hk)) hk h1 hd (h H locs arr hH hS hl hol (q_okT trivial (q_okD hos)))

set_option maxHeartbeats 1000000 in
theorem q_s27 (Z : q_Sx mt p l e R s m args below meth c Q G cc nL own d K ret rt post mc ms) {a b dd : Nat} {z : Int32} {zl : Int64} {w : List (Int32 × Nat)} {i : Instr} {len : Nat} (hd : decode cc pc = .ok (i, len)) (he : (i, len) ∈ q_exp K B len (27, pc, a, b, dd, z, zl, w)) (hc : q_ckx mt nL ret (27, pc, a, b, dd, z, zl, w) = true) (hrt : q_rtok rt ret = true)
    (h : q_op mt l d rt (fun b ls st S => q_At p l e R s m args below meth c Q G nL (q_bp B b) ls st S) post (27, pc, a, b, dd, z, zl, w) ls st S (fun ls st S => q_At p l e R s m args below meth c Q G nL (pc + len) ls st S)) : q_At p l e R s m args below meth c Q G nL (pc) ls st S := by
  obtain ⟨X, hK, hret, hlocks, hQ⟩ := Z
  obtain ⟨hx, hb, hml, hown, hts, hW, hR, hfo, hE⟩ := id X
  intro H locs arr hH hS hl hol hos
  rcases st with _ | ⟨v, r⟩
  · exact h.elim
  · rcases v with x | x | x
    case cons.inl => exact h.elim
    case cons.inr.inl => exact h.elim
    obtain ⟨g, i0⟩ := x
    obtain ⟨rfl, h⟩ : g = a ∧ q_At p l e R s m args below meth c Q G nL (pc + len) ls (.inr (.inl (q_L S a i0 b)) :: r) S := h
    simp only [q_exp, List.mem_map, List.mem_filter, decide_eq_true_eq] at he
    obtain ⟨y, ⟨h1, h2, h3, h4⟩, h5⟩ := he
    cases h5
    obtain ⟨idx, y1, y2, y3⟩ := y
    dsimp only at h2 h3 h4
    subst h2; subst h3; subst h4
    simp only [q_ckx, decide_eq_true_eq, Option.map_eq_some_iff] at hc
    obtain ⟨k, hk, hk0⟩ := hc
    obtain ⟨k1, k2⟩ := k
    dsimp only at hk0
    subst hk0
    exact q_read X hK hH (q_okA (q_okH hos) (q_fk_lt hk)) hk h1 hd (h H locs arr hH hS hl hol (q_okT trivial (q_okD hos)))

set_option maxHeartbeats 1000000 in
theorem q_s28 (Z : q_Sx mt p l e R s m args below meth c Q G cc nL own d K ret rt post mc ms) {a b dd : Nat} {z : Int32} {zl : Int64} {w : List (Int32 × Nat)} {i : Instr} {len : Nat} (hd : decode cc pc = .ok (i, len)) (he : (i, len) ∈ q_exp K B len (28, pc, a, b, dd, z, zl, w)) (hc : q_ckx mt nL ret (28, pc, a, b, dd, z, zl, w) = true) (hrt : q_rtok rt ret = true)
    (h : q_op mt l d rt (fun b ls st S => q_At p l e R s m args below meth c Q G nL (q_bp B b) ls st S) post (28, pc, a, b, dd, z, zl, w) ls st S (fun ls st S => q_At p l e R s m args below meth c Q G nL (pc + len) ls st S)) : q_At p l e R s m args below meth c Q G nL (pc) ls st S := by
  obtain ⟨X, hK, hret, hlocks, hQ⟩ := Z
  obtain ⟨hx, hb, hml, hown, hts, hW, hR, hfo, hE⟩ := id X
  intro H locs arr hH hS hl hol hos
  rcases st with _ | ⟨v, r⟩
  · exact h.elim
  · rcases v with x | x | x
    case cons.inl => exact h.elim
    case cons.inr.inl => exact h.elim
    obtain ⟨g, i0⟩ := x
    obtain ⟨rfl, h⟩ : g = a ∧ q_At p l e R s m args below meth c Q G nL (pc + len) ls (.inr (.inr (dd, i0)) :: r) S := h
    simp only [q_exp, List.mem_map, List.mem_filter, decide_eq_true_eq] at he
    obtain ⟨y, ⟨h1, h2, h3, h4⟩, h5⟩ := he
    cases h5
    obtain ⟨idx, y1, y2, y3⟩ := y
    dsimp only at h2 h3 h4
    subst h2; subst h3; subst h4
    simp only [q_ckx, Bool.and_eq_true, decide_eq_true_eq] at hc
    have hi : i0 < q_cnt g := q_okA (q_okH hos) (q_fk_lt hc.1)
    refine q_read X hK hH hi hc.1 h1 hd ?_
    have h := h H locs arr hH hS hl hol (q_okT (Or.inl (Nat.lt_of_lt_of_le hi hc.2)) (q_okD hos))
    simpa only [q_fv, List.map_cons, q_cv, Nat.zero_add, Nat.one_mul] using h

set_option maxHeartbeats 1000000 in
theorem q_s29 (Z : q_Sx mt p l e R s m args below meth c Q G cc nL own d K ret rt post mc ms) {a b dd : Nat} {z : Int32} {zl : Int64} {w : List (Int32 × Nat)} {i : Instr} {len : Nat} (hd : decode cc pc = .ok (i, len)) (he : (i, len) ∈ q_exp K B len (29, pc, a, b, dd, z, zl, w)) (hc : q_ckx mt nL ret (29, pc, a, b, dd, z, zl, w) = true) (hrt : q_rtok rt ret = true)
    (h : q_op mt l d rt (fun b ls st S => q_At p l e R s m args below meth c Q G nL (q_bp B b) ls st S) post (29, pc, a, b, dd, z, zl, w) ls st S (fun ls st S => q_At p l e R s m args below meth c Q G nL (pc + len) ls st S)) : q_At p l e R s m args below meth c Q G nL (pc) ls st S := by
  obtain ⟨X, hK, hret, hlocks, hQ⟩ := Z
  obtain ⟨hx, hb, hml, hown, hts, hW, hR, hfo, hE⟩ := id X
  intro H locs arr hH hS hl hol hos
  rcases st with _ | ⟨v, r⟩
  · exact h.elim
  · rcases v with x | x | x
    case cons.inl => exact h.elim
    case cons.inr.inl => exact h.elim
    obtain ⟨g, i0⟩ := x
    rcases w with _ | ⟨⟨w1, w2⟩, _ | ⟨w3, w4⟩⟩
    · exact h.2.elim
    case cons.inr.inr.cons.cons => exact h.2.elim
    obtain ⟨rfl, h⟩ : g = a ∧ q_At p l e R s m args below meth c Q G nL (pc + len) ls (.inr (.inr (dd, w2)) :: r) S := h
    simp only [q_exp, List.mem_map, List.mem_filter, decide_eq_true_eq] at he
    obtain ⟨y, ⟨h1, h2, h3, h4⟩, h5⟩ := he
    cases h5
    obtain ⟨idx, y1, y2, y3⟩ := y
    dsimp only at h2 h3 h4
    subst h2; subst h3; subst h4
    simp only [q_ckx, Bool.and_eq_true, decide_eq_true_eq] at hc
    have hi : i0 < q_cnt g := q_okA (q_okH hos) (q_fk_lt hc.1)
    refine q_read X hK hH hi hc.1 h1 hd ?_
    have h := h H locs arr hH hS hl hol (q_okT (Or.inl hc.2) (q_okD hos))
    simpa only [q_fv, List.map_cons, q_cv, Nat.add_zero, Nat.zero_mul] using h

set_option maxHeartbeats 1000000 in
theorem q_s30 (Z : q_Sx mt p l e R s m args below meth c Q G cc nL own d K ret rt post mc ms) {a b dd : Nat} {z : Int32} {zl : Int64} {w : List (Int32 × Nat)} {i : Instr} {len : Nat} (hd : decode cc pc = .ok (i, len)) (he : (i, len) ∈ q_exp K B len (30, pc, a, b, dd, z, zl, w)) (hc : q_ckx mt nL ret (30, pc, a, b, dd, z, zl, w) = true) (hrt : q_rtok rt ret = true)
    (h : q_op mt l d rt (fun b ls st S => q_At p l e R s m args below meth c Q G nL (q_bp B b) ls st S) post (30, pc, a, b, dd, z, zl, w) ls st S (fun ls st S => q_At p l e R s m args below meth c Q G nL (pc + len) ls st S)) : q_At p l e R s m args below meth c Q G nL (pc) ls st S := by
  obtain ⟨X, hK, hret, hlocks, hQ⟩ := Z
  obtain ⟨hx, hb, hml, hown, hts, hW, hR, hfo, hE⟩ := id X
  intro H locs arr hH hS hl hol hos
  rcases st with _ | ⟨v, r⟩
  · exact h.elim
  · rcases v with x | x | x
    case cons.inl => exact h.elim
    case cons.inr.inl => exact h.elim
    obtain ⟨g, i0⟩ := x
    obtain ⟨rfl, h⟩ : g = a ∧ q_At p l e R s m args below meth c Q G nL (pc + len) ls (.inr (.inr (dd, q_M S a i0 b)) :: r) S := h
    simp only [q_exp, List.mem_map, List.mem_filter, decide_eq_true_eq] at he
    obtain ⟨y, ⟨h1, h2, h3, h4⟩, h5⟩ := he
    cases h5
    obtain ⟨idx, y1, y2, y3⟩ := y
    dsimp only at h2 h3 h4
    subst h2; subst h3; subst h4
    have hc := of_decide_eq_true hc
    have hi : i0 < q_cnt g := q_okA (q_okH hos) (q_fk_lt hc)
    exact q_read X hK hH hi hc h1 hd (h H locs arr hH hS hl hol (q_okT (Or.inl (hH.2 _ _ _ _ _ hi hc)) (q_okD hos)))

set_option maxHeartbeats 1000000 in
theorem q_s31 (Z : q_Sx mt p l e R s m args below meth c Q G cc nL own d K ret rt post mc ms) {a b dd : Nat} {z : Int32} {zl : Int64} {w : List (Int32 × Nat)} {i : Instr} {len : Nat} (hd : decode cc pc = .ok (i, len)) (he : (i, len) ∈ q_exp K B len (31, pc, a, b, dd, z, zl, w)) (hc : q_ckx mt nL ret (31, pc, a, b, dd, z, zl, w) = true) (hrt : q_rtok rt ret = true)
    (h : q_op mt l d rt (fun b ls st S => q_At p l e R s m args below meth c Q G nL (q_bp B b) ls st S) post (31, pc, a, b, dd, z, zl, w) ls st S (fun ls st S => q_At p l e R s m args below meth c Q G nL (pc + len) ls st S)) : q_At p l e R s m args below meth c Q G nL (pc) ls st S := by
  obtain ⟨X, hK, hret, hlocks, hQ⟩ := Z
  obtain ⟨hx, hb, hml, hown, hts, hW, hR, hfo, hE⟩ := id X
  intro H locs arr hH hS hl hol hos
  rcases st with _ | ⟨v1, _ | ⟨v2, r⟩⟩
  · exact h.elim
  · rcases v1 with x | x | x <;> exact h.elim
  · rcases v1 with y | y | y <;> rcases v2 with x | x | x
    case cons.cons.inl.inl => exact h.elim
    case cons.cons.inl.inr.inl => exact h.elim
    case cons.cons.inr.inl.inl => exact h.elim
    case cons.cons.inr.inl.inr.inl => exact h.elim
    case cons.cons.inr.inl.inr.inr => exact h.elim
    case cons.cons.inr.inr.inl => exact h.elim
    case cons.cons.inr.inr.inr.inl => exact h.elim
    case cons.cons.inr.inr.inr.inr => exact h.elim
    obtain ⟨g, i0⟩ := x
    obtain ⟨rfl, h⟩ : g = a ∧ q_At p l e R s m args below meth c Q G nL (pc + len) ls r (q_wI S a i0 b y) := h
    simp only [q_exp, List.mem_map, List.mem_filter, decide_eq_true_eq] at he
    obtain ⟨y, ⟨h1, h2, h3, h4⟩, h5⟩ := he
    cases h5
    obtain ⟨idx, y1, y2, y3⟩ := y
    dsimp only at h2 h3 h4
    subst h2; subst h3; subst h4
    simp only [q_ckx, decide_eq_true_eq, Option.map_eq_some_iff] at hc
    obtain ⟨k, hk, hk0⟩ := hc
    obtain ⟨k1, k2⟩ := k
    dsimp only at hk0
    subst hk0
    refine q_write X hK hH hS (q_okA (q_okH (q_okD hos)) (q_fk_lt hk)) hk h1 hd (S' := q_wI S g i0 y3 y) (by simp [q_fv, q_cv, q_I_wI, q_L_wI, q_M_wI]) ?_ ?_ ?_ ?_ ?_ (by simp) (fun H' locs' hH' hS' => h H' locs' arr hH' hS' hl hol (q_okD (q_okD hos)))
    · intro g2 i2 j2 k2 hne hk2
      unfold q_fv
      by_cases e : g2 = g ∧ i2 = i0 ∧ j2 = y3
      · exact absurd e hne
      · split <;> simp [q_I_wI, q_L_wI, q_M_wI, e]
    · intro g2 i2 hne
      funext j2
      simp only [q_I_wI, show ¬ (g2 = g ∧ i2 = i0 ∧ j2 = y3) from fun h => hne ⟨h.1, h.2.1⟩, if_false]
    · intro g2 i2 hne
      funext j2
      simp only [q_L_wI]
    · intro g2 i2 j2 h2 x2 hi2 hk2
      rw [q_M_wI]; exact hH.2 _ _ _ _ _ hi2 hk2
    · intro ty hty
      rw [hty.1 rfl]; exact ⟨rfl, rfl⟩

set_option maxHeartbeats 1000000 in
theorem q_s34 (Z : q_Sx mt p l e R s m args below meth c Q G cc nL own d K ret rt post mc ms) {a b dd : Nat} {z : Int32} {zl : Int64} {w : List (Int32 × Nat)} {i : Instr} {len : Nat} (hd : decode cc pc = .ok (i, len)) (he : (i, len) ∈ q_exp K B len (34, pc, a, b, dd, z, zl, w)) (hc : q_ckx mt nL ret (34, pc, a, b, dd, z, zl, w) = true) (hrt : q_rtok rt ret = true)
    (h : q_op mt l d rt (fun b ls st S => q_At p l e R s m args below meth c Q G nL (q_bp B b) ls st S) post (34, pc, a, b, dd, z, zl, w) ls st S (fun ls st S => q_At p l e R s m args below meth c Q G nL (pc + len) ls st S)) : q_At p l e R s m args below meth c Q G nL (pc) ls st S := by
  obtain ⟨X, hK, hret, hlocks, hQ⟩ := Z
  obtain ⟨hx, hb, hml, hown, hts, hW, hR, hfo, hE⟩ := id X
  intro H locs arr hH hS hl hol hos
  rcases st with _ | ⟨v1, _ | ⟨v2, r⟩⟩
  · exact h.elim
  · rcases v1 with x | x | x <;> exact h.elim
  · rcases v1 with y | y | y <;> rcases v2 with x | x | x
    case cons.cons.inl.inl => exact h.elim
    case cons.cons.inl.inr.inl => exact h.elim
    case cons.cons.inr.inl.inl => exact h.elim
    case cons.cons.inr.inl.inr.inl => exact h.elim
    case cons.cons.inr.inl.inr.inr => exact h.elim
    case cons.cons.inr.inr.inl => exact h.elim
    case cons.cons.inr.inr.inr.inl => exact h.elim
    case cons.cons.inr.inr.inr.inr => exact h.elim
    obtain ⟨g, i0⟩ := x
    obtain ⟨h01, rfl, h⟩ : (y = 0 ∨ y = 1) ∧ g = a ∧ q_At p l e R s m args below meth c Q G nL (pc + len) ls r (q_wI S a i0 b y) := h
    simp only [q_exp, List.mem_map, List.mem_filter, decide_eq_true_eq] at he
    obtain ⟨y, ⟨h1, h2, h3, h4⟩, h5⟩ := he
    cases h5
    obtain ⟨idx, y1, y2, y3⟩ := y
    dsimp only at h2 h3 h4
    subst h2; subst h3; subst h4
    simp only [q_ckx, decide_eq_true_eq, Option.map_eq_some_iff] at hc
    obtain ⟨k, hk, hk0⟩ := hc
    obtain ⟨k1, k2⟩ := k
    dsimp only at hk0
    subst hk0
    refine q_write X hK hH hS (q_okA (q_okH (q_okD hos)) (q_fk_lt hk)) hk h1 hd (S' := q_wI S g i0 y3 y) (by simp [q_fv, q_cv, q_I_wI, q_L_wI, q_M_wI]) ?_ ?_ ?_ ?_ ?_ (by simp) (fun H' locs' hH' hS' => h H' locs' arr hH' hS' hl hol (q_okD (q_okD hos)))
    · intro g2 i2 j2 k2 hne hk2
      unfold q_fv
      by_cases e : g2 = g ∧ i2 = i0 ∧ j2 = y3
      · exact absurd e hne
      · split <;> simp [q_I_wI, q_L_wI, q_M_wI, e]
    · intro g2 i2 hne
      funext j2
      simp only [q_I_wI, show ¬ (g2 = g ∧ i2 = i0 ∧ j2 = y3) from fun h => hne ⟨h.1, h.2.1⟩, if_false]
    · intro g2 i2 hne
      funext j2
      simp only [q_L_wI]
    · intro g2 i2 j2 h2 x2 hi2 hk2
      rw [q_M_wI]; exact hH.2 _ _ _ _ _ hi2 hk2
    · intro ty hty
      rw [hty.2.2.1 rfl]; rcases h01 with rfl | rfl <;> exact ⟨rfl, rfl⟩

set_option maxHeartbeats 1000000 in
theorem q_s32 (Z : q_Sx mt p l e R s m args below meth c Q G cc nL own d K ret rt post mc ms) {a b dd : Nat} {z : Int32} {zl : Int64} {w : List (Int32 × Nat)} {i : Instr} {len : Nat} (hd : decode cc pc = .ok (i, len)) (he : (i, len) ∈ q_exp K B len (32, pc, a, b, dd, z, zl, w)) (hc : q_ckx mt nL ret (32, pc, a, b, dd, z, zl, w) = true) (hrt : q_rtok rt ret = true)
    (h : q_op mt l d rt (fun b ls st S => q_At p l e R s m args below meth c Q G nL (q_bp B b) ls st S) post (32, pc, a, b, dd, z, zl, w) ls st S (fun ls st S => q_At p l e R s m args below meth c Q G nL (pc + len) ls st S)) : q_At p l e R s m args below meth c Q G nL (pc) ls st S := by
  obtain ⟨X, hK, hret, hlocks, hQ⟩ := Z
  obtain ⟨hx, hb, hml, hown, hts, hW, hR, hfo, hE⟩ := id X
  intro H locs arr hH hS hl hol hos
  rcases st with _ | ⟨v1, _ | ⟨v2, r⟩⟩
  · exact h.elim
  · rcases v1 with x | x | x <;> exact h.elim
  · rcases v1 with y | y | y <;> rcases v2 with x | x | x
    case cons.cons.inl.inl => exact h.elim
    case cons.cons.inl.inr.inl => exact h.elim
    case cons.cons.inl.inr.inr => exact h.elim
    case cons.cons.inr.inl.inl => exact h.elim
    case cons.cons.inr.inl.inr.inl => exact h.elim
    case cons.cons.inr.inr.inl => exact h.elim
    case cons.cons.inr.inr.inr.inl => exact h.elim
    case cons.cons.inr.inr.inr.inr => exact h.elim
    obtain ⟨g, i0⟩ := x
    obtain ⟨rfl, h⟩ : g = a ∧ q_At p l e R s m args below meth c Q G nL (pc + len) ls r (q_wL S a i0 b y) := h
    simp only [q_exp, List.mem_map, List.mem_filter, decide_eq_true_eq] at he
    obtain ⟨y, ⟨h1, h2, h3, h4⟩, h5⟩ := he
    cases h5
    obtain ⟨idx, y1, y2, y3⟩ := y
    dsimp only at h2 h3 h4
    subst h2; subst h3; subst h4
    simp only [q_ckx, decide_eq_true_eq, Option.map_eq_some_iff] at hc
    obtain ⟨k, hk, hk0⟩ := hc
    obtain ⟨k1, k2⟩ := k
    dsimp only at hk0
    subst hk0
    refine q_write X hK hH hS (q_okA (q_okH (q_okD hos)) (q_fk_lt hk)) hk h1 hd (S' := q_wL S g i0 y3 y) (by simp [q_fv, q_cv, q_L_wL, q_I_wL, q_M_wL]) ?_ ?_ ?_ ?_ ?_ (by simp) (fun H' locs' hH' hS' => h H' locs' arr hH' hS' hl hol (q_okD (q_okD hos)))
    · intro g2 i2 j2 k2 hne hk2
      unfold q_fv
      by_cases e : g2 = g ∧ i2 = i0 ∧ j2 = y3
      · exact absurd e hne
      · split <;> simp [q_L_wL, q_I_wL, q_M_wL, e]
    · intro g2 i2 hne
      funext j2
      simp only [q_I_wL]
    · intro g2 i2 hne
      funext j2
      simp only [q_L_wL, show ¬ (g2 = g ∧ i2 = i0 ∧ j2 = y3) from fun h => hne ⟨h.1, h.2.1⟩, if_false]
    · intro g2 i2 j2 h2 x2 hi2 hk2
      rw [q_M_wL]; exact hH.2 _ _ _ _ _ hi2 hk2
    · intro ty hty
      rw [hty.2.1 rfl]; exact ⟨rfl, rfl⟩

set_option maxHeartbeats 1000000 in
theorem q_s33 (Z : q_Sx mt p l e R s m args below meth c Q G cc nL own d K ret rt post mc ms) {a b dd : Nat} {z : Int32} {zl : Int64} {w : List (Int32 × Nat)} {i : Instr} {len : Nat} (hd : decode cc pc = .ok (i, len)) (he : (i, len) ∈ q_exp K B len (33, pc, a, b, dd, z, zl, w)) (hc : q_ckx mt nL ret (33, pc, a, b, dd, z, zl, w) = true) (hrt : q_rtok rt ret = true)
    (h : q_op mt l d rt (fun b ls st S => q_At p l e R s m args below meth c Q G nL (q_bp B b) ls st S) post (33, pc, a, b, dd, z, zl, w) ls st S (fun ls st S => q_At p l e R s m args below meth c Q G nL (pc + len) ls st S)) : q_At p l e R s m args below meth c Q G nL (pc) ls st S := by
  obtain ⟨X, hK, hret, hlocks, hQ⟩ := Z
  obtain ⟨hx, hb, hml, hown, hts, hW, hR, hfo, hE⟩ := id X
  intro H locs arr hH hS hl hol hos
  rcases st with _ | ⟨v1, _ | ⟨v2, r⟩⟩
  · exact h.elim
  · rcases v1 with x | x | x <;> exact h.elim
  · rcases v1 with y | y | y <;> rcases v2 with x | x | x
    case cons.cons.inl.inl => exact h.elim
    case cons.cons.inl.inr.inl => exact h.elim
    case cons.cons.inl.inr.inr => exact h.elim
    case cons.cons.inr.inl.inl => exact h.elim
    case cons.cons.inr.inl.inr.inl => exact h.elim
    case cons.cons.inr.inl.inr.inr => exact h.elim
    case cons.cons.inr.inr.inl => exact h.elim
    case cons.cons.inr.inr.inr.inl => exact h.elim
    obtain ⟨g, i0⟩ := x
    obtain ⟨h', y0⟩ := y
    obtain ⟨rfl, rfl, h⟩ : h' = dd ∧ g = a ∧ q_At p l e R s m args below meth c Q G nL (pc + len) ls r (q_wM S a i0 b y0) := h
    simp only [q_exp, List.mem_map, List.mem_filter, decide_eq_true_eq] at he
    obtain ⟨y, ⟨h1, h2, h3, h4⟩, h5⟩ := he
    cases h5
    obtain ⟨idx, y1, y2, y3⟩ := y
    dsimp only at h2 h3 h4
    subst h2; subst h3; subst h4
    simp only [q_ckx, Bool.and_eq_true, decide_eq_true_eq] at hc
    obtain ⟨hk, h97⟩ := hc
    have hy0 : y0 < q_cnt h' := q_okA (q_okH hos) h97
    refine q_write X hK hH hS (q_okA (q_okH (q_okD hos)) (q_fk_lt hk)) hk h1 hd (S' := q_wM S g i0 y3 y0) (by simp [q_fv, q_cv, q_M_wM, q_I_wM, q_L_wM]) ?_ ?_ ?_ ?_ ?_ (by simp) (fun H' locs' hH' hS' => h H' locs' arr hH' hS' hl hol (q_okD (q_okD hos)))
    · intro g2 i2 j2 k2 hne hk2
      unfold q_fv
      by_cases e : g2 = g ∧ i2 = i0 ∧ j2 = y3
      · exact absurd e hne
      · split <;> simp [q_M_wM, q_I_wM, q_L_wM, e]
    · intro g2 i2 hne
      funext j2
      simp only [q_I_wM]
    · intro g2 i2 hne
      funext j2
      simp only [q_L_wM]
    · intro g2 i2 j2 h2 x2 hi2 hk2
      rw [q_M_wM]; split
      · rename_i e; obtain ⟨rfl, rfl, rfl⟩ := e; rw [hk] at hk2; cases hk2; exact hy0
      · exact hH.2 _ _ _ _ _ hi2 hk2
    · intro ty hty
      obtain ⟨n, hn⟩ := hty.2.2.2 rfl; rw [hn]; exact ⟨rfl, rfl⟩

set_option maxHeartbeats 1000000 in
theorem q_s35 (Z : q_Sx mt p l e R s m args below meth c Q G cc nL own d K ret rt post mc ms) {a b dd : Nat} {z : Int32} {zl : Int64} {w : List (Int32 × Nat)} {i : Instr} {len : Nat} (hd : decode cc pc = .ok (i, len)) (he : (i, len) ∈ q_exp K B len (35, pc, a, b, dd, z, zl, w)) (hc : q_ckx mt nL ret (35, pc, a, b, dd, z, zl, w) = true) (hrt : q_rtok rt ret = true)
    (h : q_op mt l d rt (fun b ls st S => q_At p l e R s m args below meth c Q G nL (q_bp B b) ls st S) post (35, pc, a, b, dd, z, zl, w) ls st S (fun ls st S => q_At p l e R s m args below meth c Q G nL (pc + len) ls st S)) : q_At p l e R s m args below meth c Q G nL (pc) ls st S := by
  obtain ⟨X, hK, hret, hlocks, hQ⟩ := Z
  obtain ⟨hx, hb, hml, hown, hts, hW, hR, hfo, hE⟩ := id X
  intro H locs arr hH hS hl hol hos
  rcases st with _ | ⟨v1, _ | ⟨v2, r⟩⟩
  · exact h.elim
  · rcases v1 with x | x | x <;> exact h.elim
  · rcases v1 with y | y | y <;> rcases v2 with x | x | x
    case cons.cons.inl.inl => exact h.elim
    case cons.cons.inl.inr.inl => exact h.elim
    case cons.cons.inr.inl.inl => exact h.elim
    case cons.cons.inr.inl.inr.inl => exact h.elim
    case cons.cons.inr.inl.inr.inr => exact h.elim
    case cons.cons.inr.inr.inl => exact h.elim
    case cons.cons.inr.inr.inr.inl => exact h.elim
    case cons.cons.inr.inr.inr.inr => exact h.elim
    obtain ⟨f, i0⟩ := x
    obtain ⟨hk, hin, h⟩ : q_ak f = 0 ∧ vp_in y (q_al f) ∧ q_At p l e R s m args below meth c Q G nL (pc + len) ls (.inl (q_I S f i0 y.toNatClampNeg) :: r) S := h
    cases List.mem_singleton.mp he
    have hi : i0 < q_cnt f := q_okA (q_okH (q_okD hos)) (q_ak_lt (by rw [hk]; decide))
    have hP := q_arr0 hH hi hk
    have hKa := q_arrK hW hi (by rw [hk]; decide) (q_aty0 hk)
    exact va_iald (D := G.2.2) (ws := [(G.1 f i0, .inl (G.2.1 f i0, q_al f, .inl (q_I S f i0)))]) (tys := [(G.2.1 f i0, .int)]) hx hb hKa hP 0 0 rfl rfl hin hd (h H locs arr hH hS hl hol (q_okT trivial (q_okD (q_okD hos))))

set_option maxHeartbeats 1000000 in
theorem q_s36 (Z : q_Sx mt p l e R s m args below meth c Q G cc nL own d K ret rt post mc ms) {a b dd : Nat} {z : Int32} {zl : Int64} {w : List (Int32 × Nat)} {i : Instr} {len : Nat} (hd : decode cc pc = .ok (i, len)) (he : (i, len) ∈ q_exp K B len (36, pc, a, b, dd, z, zl, w)) (hc : q_ckx mt nL ret (36, pc, a, b, dd, z, zl, w) = true) (hrt : q_rtok rt ret = true)
    (h : q_op mt l d rt (fun b ls st S => q_At p l e R s m args below meth c Q G nL (q_bp B b) ls st S) post (36, pc, a, b, dd, z, zl, w) ls st S (fun ls st S => q_At p l e R s m args below meth c Q G nL (pc + len) ls st S)) : q_At p l e R s m args below meth c Q G nL (pc) ls st S := by
  obtain ⟨X, hK, hret, hlocks, hQ⟩ := Z
  obtain ⟨hx, hb, hml, hown, hts, hW, hR, hfo, hE⟩ := id X
  intro H locs arr hH hS hl hol hos
  rcases st with _ | ⟨v1, _ | ⟨v2, r⟩⟩
  · exact h.elim
  · rcases v1 with x | x | x <;> exact h.elim
  · rcases v1 with y | y | y <;> rcases v2 with x | x | x
    case cons.cons.inl.inl => exact h.elim
    case cons.cons.inl.inr.inl => exact h.elim
    case cons.cons.inr.inl.inl => exact h.elim
    case cons.cons.inr.inl.inr.inl => exact h.elim
    case cons.cons.inr.inl.inr.inr => exact h.elim
    case cons.cons.inr.inr.inl => exact h.elim
    case cons.cons.inr.inr.inr.inl => exact h.elim
    case cons.cons.inr.inr.inr.inr => exact h.elim
    obtain ⟨f, i0⟩ := x
    obtain ⟨hk, hin, h⟩ : q_ak f = 1 ∧ vp_in y (q_al f) ∧ q_At p l e R s m args below meth c Q G nL (pc + len) ls (.inl (q_I S f i0 y.toNatClampNeg) :: r) S := h
    cases List.mem_singleton.mp he
    have hi : i0 < q_cnt f := q_okA (q_okH (q_okD hos)) (q_ak_lt (by rw [hk]; decide))
    have hP := q_arr1 hH hi hk
    have hKa := q_arrK hW hi (by rw [hk]; decide) (q_aty1 hk)
    exact va_bald (D := G.2.2) (ws := [(G.1 f i0, .inl (G.2.1 f i0, q_al f, .inl (q_I S f i0)))]) (tys := [(G.2.1 f i0, .byte)]) hx hb hKa hP 0 0 rfl rfl hin hd (h H locs arr hH hS hl hol (q_okT trivial (q_okD (q_okD hos))))

set_option maxHeartbeats 1000000 in
theorem q_s37 (Z : q_Sx mt p l e R s m args below meth c Q G cc nL own d K ret rt post mc ms) {a b dd : Nat} {z : Int32} {zl : Int64} {w : List (Int32 × Nat)} {i : Instr} {len : Nat} (hd : decode cc pc = .ok (i, len)) (he : (i, len) ∈ q_exp K B len (37, pc, a, b, dd, z, zl, w)) (hc : q_ckx mt nL ret (37, pc, a, b, dd, z, zl, w) = true) (hrt : q_rtok rt ret = true)
    (h : q_op mt l d rt (fun b ls st S => q_At p l e R s m args below meth c Q G nL (q_bp B b) ls st S) post (37, pc, a, b, dd, z, zl, w) ls st S (fun ls st S => q_At p l e R s m args below meth c Q G nL (pc + len) ls st S)) : q_At p l e R s m args below meth c Q G nL (pc) ls st S := by
  obtain ⟨X, hK, hret, hlocks, hQ⟩ := Z
  obtain ⟨hx, hb, hml, hown, hts, hW, hR, hfo, hE⟩ := id X
  intro H locs arr hH hS hl hol hos
  rcases st with _ | ⟨v1, _ | ⟨v2, r⟩⟩
  · exact h.elim
  · rcases v1 with x | x | x <;> exact h.elim
  · rcases v1 with y | y | y <;> rcases v2 with x | x | x
    case cons.cons.inl.inl => exact h.elim
    case cons.cons.inl.inr.inl => exact h.elim
    case cons.cons.inr.inl.inl => exact h.elim
    case cons.cons.inr.inl.inr.inl => exact h.elim
    case cons.cons.inr.inl.inr.inr => exact h.elim
    case cons.cons.inr.inr.inl => exact h.elim
    case cons.cons.inr.inr.inr.inl => exact h.elim
    case cons.cons.inr.inr.inr.inr => exact h.elim
    obtain ⟨f, i0⟩ := x
    obtain ⟨hk, hin, h⟩ : q_ak f = 2 ∧ vp_in y (q_al f) ∧ q_At p l e R s m args below meth c Q G nL (pc + len) ls (.inr (.inl (q_L S f i0 y.toNatClampNeg)) :: r) S := h
    cases List.mem_singleton.mp he
    have hi : i0 < q_cnt f := q_okA (q_okH (q_okD hos)) (q_ak_lt (by rw [hk]; decide))
    have hP := q_arr2 hH hi hk
    have hKa := q_arrK hW hi (by rw [hk]; decide) (q_aty2 hk)
    exact va_lald (D := G.2.2) (ws := [(G.1 f i0, .inl (G.2.1 f i0, q_al f, .inr (.inl (q_L S f i0))))]) (tys := [(G.2.1 f i0, .long)]) hx hb hKa hP 0 0 rfl rfl hin hd (h H locs arr hH hS hl hol (q_okT trivial (q_okD (q_okD hos))))

set_option maxHeartbeats 1000000 in
theorem q_s38 (Z : q_Sx mt p l e R s m args below meth c Q G cc nL own d K ret rt post mc ms) {a b dd : Nat} {z : Int32} {zl : Int64} {w : List (Int32 × Nat)} {i : Instr} {len : Nat} (hd : decode cc pc = .ok (i, len)) (he : (i, len) ∈ q_exp K B len (38, pc, a, b, dd, z, zl, w)) (hc : q_ckx mt nL ret (38, pc, a, b, dd, z, zl, w) = true) (hrt : q_rtok rt ret = true)
    (h : q_op mt l d rt (fun b ls st S => q_At p l e R s m args below meth c Q G nL (q_bp B b) ls st S) post (38, pc, a, b, dd, z, zl, w) ls st S (fun ls st S => q_At p l e R s m args below meth c Q G nL (pc + len) ls st S)) : q_At p l e R s m args below meth c Q G nL (pc) ls st S := by
  obtain ⟨X, hK, hret, hlocks, hQ⟩ := Z
  obtain ⟨hx, hb, hml, hown, hts, hW, hR, hfo, hE⟩ := id X
  intro H locs arr hH hS hl hol hos
  rcases st with _ | ⟨v1, _ | ⟨v2, r⟩⟩
  · exact h.elim
  · rcases v1 with x | x | x <;> exact h.elim
  · rcases v1 with y | y | y <;> rcases v2 with x | x | x
    case cons.cons.inl.inl => exact h.elim
    case cons.cons.inl.inr.inl => exact h.elim
    case cons.cons.inr.inl.inl => exact h.elim
    case cons.cons.inr.inl.inr.inl => exact h.elim
    case cons.cons.inr.inl.inr.inr => exact h.elim
    case cons.cons.inr.inr.inl => exact h.elim
    case cons.cons.inr.inr.inr.inl => exact h.elim
    case cons.cons.inr.inr.inr.inr => exact h.elim
    obtain ⟨f, i0⟩ := x
    cases List.mem_singleton.mp he
    obtain ⟨hin, h⟩ := h
    have h97 : f < 97 := Nat.lt_of_not_le fun q => by
      rw [q_big (show 81 ≤ f by omega)] at h
      exact h
    have hi : i0 < q_cnt f := q_okA (q_okH (q_okD hos)) h97
    cases hf : q_fam f with
    | inl q => rw [hf] at h; exact h.elim
    | inr q =>
      obtain ⟨k, n, g, c0, c1⟩ := q
      rw [hf] at h
      match k, hf, h with
      | 0, _, h => exact h.elim
      | 1, _, h => exact h.elim
      | 2, _, h => exact h.elim
      | n + 4, _, h => exact h.elim
      | 3, hf, h =>
        have h : q_At p l e R s m args below meth c Q G nL (pc + 1) ls (.inr (.inr (g, c0 + c1 * i0 + y.toNatClampNeg)) :: r) S := h
        have hn : q_al f = n := by simp only [q_al, hf]
        rw [hn] at hin
        have hP : va_P G.2.2 vwCl [(G.1 f i0, .inl (G.2.1 f i0, n, .inr (.inr (.inr (.inr (fun j => some (G.1 g (c0 + c1 * i0 + j))))))))] H := fun k9 q9 h9 => by
          have : k9 = 0 := by have := (List.getElem?_eq_some_iff.mp h9).1; simp at this; exact this
          subst this
          cases h9
          have := hH.1 f i0 hi
          unfold q_cel at this
          rw [hf] at this
          exact this
        have hlt : y.toNatClampNeg < n := Nat.not_le.mp fun q => hin (Or.inr q)
        have hv := q_far f i0 n g c0 c1 y.toNatClampNeg hf hi hlt
        have ak3 : q_ak f < 4 := by simp only [q_ak, hf]; decide
        exact q_aald hx hb hP hW hi ak3 (q_atyR f (by simp only [q_ak, hf])) hin hd (h H locs arr hH hS hl hol (q_okT (Or.inl hv) (q_okD (q_okD hos))))

set_option maxHeartbeats 1000000 in
theorem q_s39 (Z : q_Sx mt p l e R s m args below meth c Q G cc nL own d K ret rt post mc ms) {a b dd : Nat} {z : Int32} {zl : Int64} {w : List (Int32 × Nat)} {i : Instr} {len : Nat} (hd : decode cc pc = .ok (i, len)) (he : (i, len) ∈ q_exp K B len (39, pc, a, b, dd, z, zl, w)) (hc : q_ckx mt nL ret (39, pc, a, b, dd, z, zl, w) = true) (hrt : q_rtok rt ret = true)
    (h : q_op mt l d rt (fun b ls st S => q_At p l e R s m args below meth c Q G nL (q_bp B b) ls st S) post (39, pc, a, b, dd, z, zl, w) ls st S (fun ls st S => q_At p l e R s m args below meth c Q G nL (pc + len) ls st S)) : q_At p l e R s m args below meth c Q G nL (pc) ls st S := by
  obtain ⟨X, hK, hret, hlocks, hQ⟩ := Z
  obtain ⟨hx, hb, hml, hown, hts, hW, hR, hfo, hE⟩ := id X
  intro H locs arr hH hS hl hol hos
  rcases st with _ | ⟨v1, _ | ⟨v2, _ | ⟨v3, r⟩⟩⟩
  · exact h.elim
  · rcases v1 with x | x | x <;> exact h.elim
  · rcases v1 with x | x | x <;> rcases v2 with y | y | y <;> exact h.elim
  · rcases v1 with v | v | v <;> rcases v2 with y | y | y <;> rcases v3 with x | x | x
    case cons.cons.cons.inl.inl.inl => exact h.elim
    case cons.cons.cons.inl.inl.inr.inl => exact h.elim
    case cons.cons.cons.inl.inr.inl.inl => exact h.elim
    case cons.cons.cons.inl.inr.inl.inr.inl => exact h.elim
    case cons.cons.cons.inl.inr.inl.inr.inr => exact h.elim
    case cons.cons.cons.inl.inr.inr.inl => exact h.elim
    case cons.cons.cons.inl.inr.inr.inr.inl => exact h.elim
    case cons.cons.cons.inl.inr.inr.inr.inr => exact h.elim
    case cons.cons.cons.inr.inl.inl.inl => exact h.elim
    case cons.cons.cons.inr.inl.inl.inr.inl => exact h.elim
    case cons.cons.cons.inr.inl.inl.inr.inr => exact h.elim
    case cons.cons.cons.inr.inl.inr.inl.inl => exact h.elim
    case cons.cons.cons.inr.inl.inr.inl.inr.inl => exact h.elim
    case cons.cons.cons.inr.inl.inr.inl.inr.inr => exact h.elim
    case cons.cons.cons.inr.inl.inr.inr.inl => exact h.elim
    case cons.cons.cons.inr.inl.inr.inr.inr.inl => exact h.elim
    case cons.cons.cons.inr.inl.inr.inr.inr.inr => exact h.elim
    case cons.cons.cons.inr.inr.inl.inl => exact h.elim
    case cons.cons.cons.inr.inr.inl.inr.inl => exact h.elim
    case cons.cons.cons.inr.inr.inl.inr.inr => exact h.elim
    case cons.cons.cons.inr.inr.inr.inl.inl => exact h.elim
    case cons.cons.cons.inr.inr.inr.inl.inr.inl => exact h.elim
    case cons.cons.cons.inr.inr.inr.inl.inr.inr => exact h.elim
    case cons.cons.cons.inr.inr.inr.inr.inl => exact h.elim
    case cons.cons.cons.inr.inr.inr.inr.inr.inl => exact h.elim
    case cons.cons.cons.inr.inr.inr.inr.inr.inr => exact h.elim
    obtain ⟨f, i0⟩ := x
    obtain ⟨hk, hin, h⟩ : q_ak f = 0 ∧ vp_in y (q_al f) ∧ q_At p l e R s m args below meth c Q G nL (pc + len) ls r (q_wI S f i0 y.toNatClampNeg v) := h
    cases List.mem_singleton.mp he
    have hi : i0 < q_cnt f := q_okA (q_okH (q_okD (q_okD hos))) (q_ak_lt (by rw [hk]; decide))
    exact q_store0 hx hb hW hH hS hi hk hin hd (fun H' locs' hH' hS' => h H' locs' arr hH' hS' hl hol (q_okD (q_okD (q_okD hos))))

set_option maxHeartbeats 1000000 in
theorem q_s40 (Z : q_Sx mt p l e R s m args below meth c Q G cc nL own d K ret rt post mc ms) {a b dd : Nat} {z : Int32} {zl : Int64} {w : List (Int32 × Nat)} {i : Instr} {len : Nat} (hd : decode cc pc = .ok (i, len)) (he : (i, len) ∈ q_exp K B len (40, pc, a, b, dd, z, zl, w)) (hc : q_ckx mt nL ret (40, pc, a, b, dd, z, zl, w) = true) (hrt : q_rtok rt ret = true)
    (h : q_op mt l d rt (fun b ls st S => q_At p l e R s m args below meth c Q G nL (q_bp B b) ls st S) post (40, pc, a, b, dd, z, zl, w) ls st S (fun ls st S => q_At p l e R s m args below meth c Q G nL (pc + len) ls st S)) : q_At p l e R s m args below meth c Q G nL (pc) ls st S := by
  obtain ⟨X, hK, hret, hlocks, hQ⟩ := Z
  obtain ⟨hx, hb, hml, hown, hts, hW, hR, hfo, hE⟩ := id X
  intro H locs arr hH hS hl hol hos
  rcases st with _ | ⟨v1, _ | ⟨v2, _ | ⟨v3, r⟩⟩⟩
  · exact h.elim
  · rcases v1 with x | x | x <;> exact h.elim
  · rcases v1 with x | x | x <;> rcases v2 with y | y | y <;> exact h.elim
  · rcases v1 with v | v | v <;> rcases v2 with y | y | y <;> rcases v3 with x | x | x
    case cons.cons.cons.inl.inl.inl => exact h.elim
    case cons.cons.cons.inl.inl.inr.inl => exact h.elim
    case cons.cons.cons.inl.inr.inl.inl => exact h.elim
    case cons.cons.cons.inl.inr.inl.inr.inl => exact h.elim
    case cons.cons.cons.inl.inr.inl.inr.inr => exact h.elim
    case cons.cons.cons.inl.inr.inr.inl => exact h.elim
    case cons.cons.cons.inl.inr.inr.inr.inl => exact h.elim
    case cons.cons.cons.inl.inr.inr.inr.inr => exact h.elim
    case cons.cons.cons.inr.inl.inl.inl => exact h.elim
    case cons.cons.cons.inr.inl.inl.inr.inl => exact h.elim
    case cons.cons.cons.inr.inl.inl.inr.inr => exact h.elim
    case cons.cons.cons.inr.inl.inr.inl.inl => exact h.elim
    case cons.cons.cons.inr.inl.inr.inl.inr.inl => exact h.elim
    case cons.cons.cons.inr.inl.inr.inl.inr.inr => exact h.elim
    case cons.cons.cons.inr.inl.inr.inr.inl => exact h.elim
    case cons.cons.cons.inr.inl.inr.inr.inr.inl => exact h.elim
    case cons.cons.cons.inr.inl.inr.inr.inr.inr => exact h.elim
    case cons.cons.cons.inr.inr.inl.inl => exact h.elim
    case cons.cons.cons.inr.inr.inl.inr.inl => exact h.elim
    case cons.cons.cons.inr.inr.inl.inr.inr => exact h.elim
    case cons.cons.cons.inr.inr.inr.inl.inl => exact h.elim
    case cons.cons.cons.inr.inr.inr.inl.inr.inl => exact h.elim
    case cons.cons.cons.inr.inr.inr.inl.inr.inr => exact h.elim
    case cons.cons.cons.inr.inr.inr.inr.inl => exact h.elim
    case cons.cons.cons.inr.inr.inr.inr.inr.inl => exact h.elim
    case cons.cons.cons.inr.inr.inr.inr.inr.inr => exact h.elim
    obtain ⟨f, i0⟩ := x
    obtain ⟨hk, hin, h⟩ : q_ak f = 1 ∧ vp_in y (q_al f) ∧ q_At p l e R s m args below meth c Q G nL (pc + len) ls r (q_wI S f i0 y.toNatClampNeg v.toInt8.toInt32) := h
    cases List.mem_singleton.mp he
    have hi : i0 < q_cnt f := q_okA (q_okH (q_okD (q_okD hos))) (q_ak_lt (by rw [hk]; decide))
    exact q_store1 hx hb hW hH hS hi hk hin hd (fun H' locs' hH' hS' => h H' locs' arr hH' hS' hl hol (q_okD (q_okD (q_okD hos))))

set_option maxHeartbeats 1000000 in
theorem q_s41 (Z : q_Sx mt p l e R s m args below meth c Q G cc nL own d K ret rt post mc ms) {a b dd : Nat} {z : Int32} {zl : Int64} {w : List (Int32 × Nat)} {i : Instr} {len : Nat} (hd : decode cc pc = .ok (i, len)) (he : (i, len) ∈ q_exp K B len (41, pc, a, b, dd, z, zl, w)) (hc : q_ckx mt nL ret (41, pc, a, b, dd, z, zl, w) = true) (hrt : q_rtok rt ret = true)
    (h : q_op mt l d rt (fun b ls st S => q_At p l e R s m args below meth c Q G nL (q_bp B b) ls st S) post (41, pc, a, b, dd, z, zl, w) ls st S (fun ls st S => q_At p l e R s m args below meth c Q G nL (pc + len) ls st S)) : q_At p l e R s m args below meth c Q G nL (pc) ls st S := by
  obtain ⟨X, hK, hret, hlocks, hQ⟩ := Z
  obtain ⟨hx, hb, hml, hown, hts, hW, hR, hfo, hE⟩ := id X
  intro H locs arr hH hS hl hol hos
  rcases st with _ | ⟨v1, _ | ⟨v2, _ | ⟨v3, r⟩⟩⟩
  · exact h.elim
  · rcases v1 with x | x | x <;> exact h.elim
  · rcases v1 with x | x | x <;> rcases v2 with y | y | y <;> exact h.elim
  · rcases v1 with v | v | v <;> rcases v2 with y | y | y <;> rcases v3 with x | x | x
    case cons.cons.cons.inl.inl.inl => exact h.elim
    case cons.cons.cons.inl.inl.inr.inl => exact h.elim
    case cons.cons.cons.inl.inl.inr.inr => exact h.elim
    case cons.cons.cons.inl.inr.inl.inl => exact h.elim
    case cons.cons.cons.inl.inr.inl.inr.inl => exact h.elim
    case cons.cons.cons.inl.inr.inl.inr.inr => exact h.elim
    case cons.cons.cons.inl.inr.inr.inl => exact h.elim
    case cons.cons.cons.inl.inr.inr.inr.inl => exact h.elim
    case cons.cons.cons.inl.inr.inr.inr.inr => exact h.elim
    case cons.cons.cons.inr.inl.inl.inl => exact h.elim
    case cons.cons.cons.inr.inl.inl.inr.inl => exact h.elim
    case cons.cons.cons.inr.inl.inr.inl.inl => exact h.elim
    case cons.cons.cons.inr.inl.inr.inl.inr.inl => exact h.elim
    case cons.cons.cons.inr.inl.inr.inl.inr.inr => exact h.elim
    case cons.cons.cons.inr.inl.inr.inr.inl => exact h.elim
    case cons.cons.cons.inr.inl.inr.inr.inr.inl => exact h.elim
    case cons.cons.cons.inr.inl.inr.inr.inr.inr => exact h.elim
    case cons.cons.cons.inr.inr.inl.inl => exact h.elim
    case cons.cons.cons.inr.inr.inl.inr.inl => exact h.elim
    case cons.cons.cons.inr.inr.inl.inr.inr => exact h.elim
    case cons.cons.cons.inr.inr.inr.inl.inl => exact h.elim
    case cons.cons.cons.inr.inr.inr.inl.inr.inl => exact h.elim
    case cons.cons.cons.inr.inr.inr.inl.inr.inr => exact h.elim
    case cons.cons.cons.inr.inr.inr.inr.inl => exact h.elim
    case cons.cons.cons.inr.inr.inr.inr.inr.inl => exact h.elim
    case cons.cons.cons.inr.inr.inr.inr.inr.inr => exact h.elim
    obtain ⟨f, i0⟩ := x
    obtain ⟨hk, hin, h⟩ : q_ak f = 2 ∧ vp_in y (q_al f) ∧ q_At p l e R s m args below meth c Q G nL (pc + len) ls r (q_wL S f i0 y.toNatClampNeg v) := h
    cases List.mem_singleton.mp he
    have hi : i0 < q_cnt f := q_okA (q_okH (q_okD (q_okD hos))) (q_ak_lt (by rw [hk]; decide))
    exact q_store2 hx hb hW hH hS hi hk hin hd (fun H' locs' hH' hS' => h H' locs' arr hH' hS' hl hol (q_okD (q_okD (q_okD hos))))

set_option maxHeartbeats 1000000 in
theorem q_s42 (Z : q_Sx mt p l e R s m args below meth c Q G cc nL own d K ret rt post mc ms) {a b dd : Nat} {z : Int32} {zl : Int64} {w : List (Int32 × Nat)} {i : Instr} {len : Nat} (hd : decode cc pc = .ok (i, len)) (he : (i, len) ∈ q_exp K B len (42, pc, a, b, dd, z, zl, w)) (hc : q_ckx mt nL ret (42, pc, a, b, dd, z, zl, w) = true) (hrt : q_rtok rt ret = true)
    (h : q_op mt l d rt (fun b ls st S => q_At p l e R s m args below meth c Q G nL (q_bp B b) ls st S) post (42, pc, a, b, dd, z, zl, w) ls st S (fun ls st S => q_At p l e R s m args below meth c Q G nL (pc + len) ls st S)) : q_At p l e R s m args below meth c Q G nL (pc) ls st S := by
  obtain ⟨X, hK, hret, hlocks, hQ⟩ := Z
  obtain ⟨hx, hb, hml, hown, hts, hW, hR, hfo, hE⟩ := id X
  intro H locs arr hH hS hl hol hos
  rcases st with _ | ⟨v, r⟩
  · exact h.elim
  · rcases v with x | x | x
    case cons.inl => exact h.elim
    case cons.inr.inl => exact h.elim
    obtain ⟨f, i0⟩ := x
    obtain ⟨hk, h⟩ : q_ak f < 4 ∧ q_At p l e R s m args below meth c Q G nL (pc + len) ls (.inl (Int32.ofNat (q_al f)) :: r) S := h
    cases List.mem_singleton.mp he
    have hi : i0 < q_cnt f := q_okA (q_okH hos) (q_ak_lt hk)
    exact q_alen hx hb hW hH hi hk hd (h H locs arr hH hS hl hol (q_okT trivial (q_okD hos)))

set_option maxHeartbeats 1000000 in
theorem q_s45 (Z : q_Sx mt p l e R s m args below meth c Q G cc nL own d K ret rt post mc ms) {a b dd : Nat} {z : Int32} {zl : Int64} {w : List (Int32 × Nat)} {i : Instr} {len : Nat} (hd : decode cc pc = .ok (i, len)) (he : (i, len) ∈ q_exp K B len (45, pc, a, b, dd, z, zl, w)) (hc : q_ckx mt nL ret (45, pc, a, b, dd, z, zl, w) = true) (hrt : q_rtok rt ret = true)
    (h : q_op mt l d rt (fun b ls st S => q_At p l e R s m args below meth c Q G nL (q_bp B b) ls st S) post (45, pc, a, b, dd, z, zl, w) ls st S (fun ls st S => q_At p l e R s m args below meth c Q G nL (pc + len) ls st S)) : q_At p l e R s m args below meth c Q G nL (pc) ls st S := by
  obtain ⟨X, hK, hret, hlocks, hQ⟩ := Z
  obtain ⟨hx, hb, hml, hown, hts, hW, hR, hfo, hE⟩ := id X
  intro H locs arr hH hS hl hol hos
  rcases st with _ | ⟨v, r⟩
  · exact h.elim
  · rcases v with x | x | x
    case cons.inr.inl => exact h.elim
    case cons.inr.inr => exact h.elim
    rcases r with _ | ⟨r1, r2⟩
    case cons.inl.cons => exact h.elim
    cases List.mem_singleton.mp he
    have hc := of_decide_eq_true hc
    subst hc
    have h : post (some (.inl x)) S := h
    refine hQ H locs _ (W.iret (Qc := q_Qc G rt post) hx hb hret (fun t ht hWm => ⟨⟨some (.inl x), S, rfl, ?_, h, by rw [ht]; exact hH, hW.moved hWm.alike⟩, hS.F ht⟩) (fun q hq => hS.2.2 q hq) hd hlocks)
    rw [q_rt1 hrt]
    exact ⟨x, rfl⟩

set_option maxHeartbeats 1000000 in
theorem q_s46 (Z : q_Sx mt p l e R s m args below meth c Q G cc nL own d K ret rt post mc ms) {a b dd : Nat} {z : Int32} {zl : Int64} {w : List (Int32 × Nat)} {i : Instr} {len : Nat} (hd : decode cc pc = .ok (i, len)) (he : (i, len) ∈ q_exp K B len (46, pc, a, b, dd, z, zl, w)) (hc : q_ckx mt nL ret (46, pc, a, b, dd, z, zl, w) = true) (hrt : q_rtok rt ret = true)
    (h : q_op mt l d rt (fun b ls st S => q_At p l e R s m args below meth c Q G nL (q_bp B b) ls st S) post (46, pc, a, b, dd, z, zl, w) ls st S (fun ls st S => q_At p l e R s m args below meth c Q G nL (pc + len) ls st S)) : q_At p l e R s m args below meth c Q G nL (pc) ls st S := by
  obtain ⟨X, hK, hret, hlocks, hQ⟩ := Z
  obtain ⟨hx, hb, hml, hown, hts, hW, hR, hfo, hE⟩ := id X
  intro H locs arr hH hS hl hol hos
  rcases st with _ | ⟨v, r⟩
  · exact h.elim
  · rcases v with x | x | x
    case cons.inr.inl => exact h.elim
    case cons.inr.inr => exact h.elim
    rcases r with _ | ⟨r1, r2⟩
    case cons.inl.cons => exact h.elim
    cases List.mem_singleton.mp he
    have hc := of_decide_eq_true hc
    subst hc
    obtain ⟨h01, h⟩ := h
    have h : post (some (.inl x)) S := h
    refine hQ H locs _ (W.zret (Qc := q_Qc G rt post) hx hb hret (by rcases h01 with rfl | rfl <;> rfl) (fun t ht hWm => ⟨⟨some (.inl x), S, rfl, ?_, h, by rw [ht]; exact hH, hW.moved hWm.alike⟩, hS.F ht⟩) (fun q hq => hS.2.2 q hq) hd hlocks)
    rw [q_rt1z hrt]
    exact ⟨x, rfl⟩

set_option maxHeartbeats 1000000 in
theorem q_s47 (Z : q_Sx mt p l e R s m args below meth c Q G cc nL own d K ret rt post mc ms) {a b dd : Nat} {z : Int32} {zl : Int64} {w : List (Int32 × Nat)} {i : Instr} {len : Nat} (hd : decode cc pc = .ok (i, len)) (he : (i, len) ∈ q_exp K B len (47, pc, a, b, dd, z, zl, w)) (hc : q_ckx mt nL ret (47, pc, a, b, dd, z, zl, w) = true) (hrt : q_rtok rt ret = true)
    (h : q_op mt l d rt (fun b ls st S => q_At p l e R s m args below meth c Q G nL (q_bp B b) ls st S) post (47, pc, a, b, dd, z, zl, w) ls st S (fun ls st S => q_At p l e R s m args below meth c Q G nL (pc + len) ls st S)) : q_At p l e R s m args below meth c Q G nL (pc) ls st S := by
  obtain ⟨X, hK, hret, hlocks, hQ⟩ := Z
  obtain ⟨hx, hb, hml, hown, hts, hW, hR, hfo, hE⟩ := id X
  intro H locs arr hH hS hl hol hos
  rcases st with _ | ⟨v, r⟩
  · exact h.elim
  · rcases v with x | x | x
    case cons.inl => exact h.elim
    case cons.inr.inr => exact h.elim
    rcases r with _ | ⟨r1, r2⟩
    case cons.inr.inl.cons => exact h.elim
    cases List.mem_singleton.mp he
    have hc := of_decide_eq_true hc
    subst hc
    have h : post (some (.inr (.inl x))) S := h
    refine hQ H locs _ (W.lret (Qc := q_Qc G rt post) hx hb hret (fun t ht hWm => ⟨⟨some (.inr (.inl x)), S, rfl, ?_, h, by rw [ht]; exact hH, hW.moved hWm.alike⟩, hS.F ht⟩) (fun q hq => hS.2.2 q hq) hd hlocks)
    rw [q_rt2 hrt]
    exact ⟨x, rfl⟩

set_option maxHeartbeats 1000000 in
theorem q_s49 (Z : q_Sx mt p l e R s m args below meth c Q G cc nL own d K ret rt post mc ms) {a b dd : Nat} {z : Int32} {zl : Int64} {w : List (Int32 × Nat)} {i : Instr} {len : Nat} (hd : decode cc pc = .ok (i, len)) (he : (i, len) ∈ q_exp K B len (49, pc, a, b, dd, z, zl, w)) (hc : q_ckx mt nL ret (49, pc, a, b, dd, z, zl, w) = true) (hrt : q_rtok rt ret = true)
    (h : q_op mt l d rt (fun b ls st S => q_At p l e R s m args below meth c Q G nL (q_bp B b) ls st S) post (49, pc, a, b, dd, z, zl, w) ls st S (fun ls st S => q_At p l e R s m args below meth c Q G nL (pc + len) ls st S)) : q_At p l e R s m args below meth c Q G nL (pc) ls st S := by
  obtain ⟨X, hK, hret, hlocks, hQ⟩ := Z
  obtain ⟨hx, hb, hml, hown, hts, hW, hR, hfo, hE⟩ := id X
  intro H locs arr hH hS hl hol hos
  rcases st with _ | ⟨v, r⟩
  case cons => exact h.elim
  cases List.mem_singleton.mp he
  have hc := of_decide_eq_true hc
  subst hc
  have h : post none S := h
  refine hQ H locs _ (W.vret (Qc := q_Qc G rt post) hx hb hret (fun t ht hWm => ⟨⟨none, S, rfl, ?_, h, by rw [ht]; exact hH, hW.moved hWm.alike⟩, hS.F ht⟩) (fun q hq => hS.2.2 q hq) hd hlocks)
  rw [q_rt0 hrt]
  exact rfl

set_option maxHeartbeats 1000000 in
theorem q_s51 (Z : q_Sx mt p l e R s m args below meth c Q G cc nL own d K ret rt post mc ms) {a b dd : Nat} {z : Int32} {zl : Int64} {w : List (Int32 × Nat)} {i : Instr} {len : Nat} (hd : decode cc pc = .ok (i, len)) (he : (i, len) ∈ q_exp K B len (51, pc, a, b, dd, z, zl, w)) (hc : q_ckx mt nL ret (51, pc, a, b, dd, z, zl, w) = true) (hrt : q_rtok rt ret = true)
    (h : q_op mt l d rt (fun b ls st S => q_At p l e R s m args below meth c Q G nL (q_bp B b) ls st S) post (51, pc, a, b, dd, z, zl, w) ls st S (fun ls st S => q_At p l e R s m args below meth c Q G nL (pc + len) ls st S)) : q_At p l e R s m args below meth c Q G nL (pc) ls st S := by
  obtain ⟨X, hK, hret, hlocks, hQ⟩ := Z
  obtain ⟨hx, hb, hml, hown, hts, hW, hR, hfo, hE⟩ := id X
  intro H locs arr hH hS hl hol hos
  rcases st with _ | ⟨v1, _ | ⟨v2, r⟩⟩
  · exact h.elim
  · rcases v1 with x | x | x <;> exact h.elim
  · rcases v1 with y | y | y <;> rcases v2 with x | x | x
    case cons.cons.inl.inr.inl => exact h.elim
    case cons.cons.inl.inr.inr => exact h.elim
    case cons.cons.inr.inl.inl => exact h.elim
    case cons.cons.inr.inl.inr.inl => exact h.elim
    case cons.cons.inr.inl.inr.inr => exact h.elim
    case cons.cons.inr.inr.inl => exact h.elim
    case cons.cons.inr.inr.inr.inl => exact h.elim
    case cons.cons.inr.inr.inr.inr => exact h.elim
    obtain ⟨hd0, h⟩ : (0 < d ∧ q_w r ≤ 8) ∧ q_At p l e R s m args below meth c Q G nL (pc + len) ls (.inl (if y < x then y else x) :: r) S := h
    simp only [q_exp, List.mem_map, List.mem_filter, decide_eq_true_eq] at he
    obtain ⟨q, ⟨h1, h2, h3⟩, h5⟩ := he
    cases h5
    obtain ⟨idx, y1, y2, y3⟩ := q
    dsimp only at h2 h3
    subst h2; subst h3
    have hl1 := hK.1 _ h1
    unfold q_cpok at hl1
    exact va_mmin hx hb (hml.trans hl.1.symm) hown (hts _ hl1) (hts _ q_mw.1) (hts _ q_mw.2.2) (hts _ q_mc.1) (by omega) (by rw [q_w_map]; omega) (Nat.zero_le _) (Nat.zero_le _) hd (h H locs arr hH hS hl hol (q_okT trivial (q_okD (q_okD hos))))

set_option maxHeartbeats 1000000 in
theorem q_s52 (Z : q_Sx mt p l e R s m args below meth c Q G cc nL own d K ret rt post mc ms) {a b dd : Nat} {z : Int32} {zl : Int64} {w : List (Int32 × Nat)} {i : Instr} {len : Nat} (hd : decode cc pc = .ok (i, len)) (he : (i, len) ∈ q_exp K B len (52, pc, a, b, dd, z, zl, w)) (hc : q_ckx mt nL ret (52, pc, a, b, dd, z, zl, w) = true) (hrt : q_rtok rt ret = true)
    (h : q_op mt l d rt (fun b ls st S => q_At p l e R s m args below meth c Q G nL (q_bp B b) ls st S) post (52, pc, a, b, dd, z, zl, w) ls st S (fun ls st S => q_At p l e R s m args below meth c Q G nL (pc + len) ls st S)) : q_At p l e R s m args below meth c Q G nL (pc) ls st S := by
  obtain ⟨X, hK, hret, hlocks, hQ⟩ := Z
  obtain ⟨hx, hb, hml, hown, hts, hW, hR, hfo, hE⟩ := id X
  intro H locs arr hH hS hl hol hos
  rcases st with _ | ⟨v1, _ | ⟨v2, r⟩⟩
  · exact h.elim
  · rcases v1 with x | x | x <;> exact h.elim
  · rcases v1 with y | y | y <;> rcases v2 with x | x | x
    case cons.cons.inl.inr.inl => exact h.elim
    case cons.cons.inl.inr.inr => exact h.elim
    case cons.cons.inr.inl.inl => exact h.elim
    case cons.cons.inr.inl.inr.inl => exact h.elim
    case cons.cons.inr.inl.inr.inr => exact h.elim
    case cons.cons.inr.inr.inl => exact h.elim
    case cons.cons.inr.inr.inr.inl => exact h.elim
    case cons.cons.inr.inr.inr.inr => exact h.elim
    obtain ⟨hd0, h⟩ : (0 < d ∧ q_w r ≤ 8) ∧ q_At p l e R s m args below meth c Q G nL (pc + len) ls (.inl (if x < y then y else x) :: r) S := h
    simp only [q_exp, List.mem_map, List.mem_filter, decide_eq_true_eq] at he
    obtain ⟨q, ⟨h1, h2, h3⟩, h5⟩ := he
    cases h5
    obtain ⟨idx, y1, y2, y3⟩ := q
    dsimp only at h2 h3
    subst h2; subst h3
    have hl1 := hK.1 _ h1
    unfold q_cpok at hl1
    exact va_mmax hx hb (hml.trans hl.1.symm) hown (hts _ hl1) (hts _ q_mw.2.1) (hts _ q_mw.2.2) (hts _ q_mc.2) (by omega) (by rw [q_w_map]; omega) (Nat.zero_le _) (Nat.zero_le _) hd (h H locs arr hH hS hl hol (q_okT trivial (q_okD (q_okD hos))))

set_option maxHeartbeats 1000000 in
theorem q_s48 (Z : q_Sx mt p l e R s m args below meth c Q G cc nL own d K ret rt post mc ms) {a b dd : Nat} {z : Int32} {zl : Int64} {w : List (Int32 × Nat)} {i : Instr} {len : Nat} (hd : decode cc pc = .ok (i, len)) (he : (i, len) ∈ q_exp K B len (48, pc, a, b, dd, z, zl, w)) (hc : q_ckx mt nL ret (48, pc, a, b, dd, z, zl, w) = true) (hrt : q_rtok rt ret = true)
    (h : q_op mt l d rt (fun b ls st S => q_At p l e R s m args below meth c Q G nL (q_bp B b) ls st S) post (48, pc, a, b, dd, z, zl, w) ls st S (fun ls st S => q_At p l e R s m args below meth c Q G nL (pc + len) ls st S)) : q_At p l e R s m args below meth c Q G nL (pc) ls st S := by
  obtain ⟨X, hK, hret, hlocks, hQ⟩ := Z
  obtain ⟨hx, hb, hml, hown, hts, hW, hR, hfo, hE⟩ := id X
  intro H locs arr hH hS hl hol hos
  rcases st with _ | ⟨v, r⟩
  · exact h.elim
  · rcases v with x | x | x
    case cons.inl => exact h.elim
    case cons.inr.inl => exact h.elim
    rcases r with _ | ⟨r1, r2⟩
    case cons.inr.inr.cons => exact h.elim
    cases List.mem_singleton.mp he
    obtain ⟨hr3, h⟩ : x.1 + 3 = rt ∧ post (some (.inr (.inr x))) S := h
    subst hr3
    obtain ⟨n, hn⟩ : ∃ n, ret = some (.object n) := by
      unfold q_ckx at hc
      match ret, hc with
      | some (.object n), _ => exact ⟨n, rfl⟩
    subst hn
    refine hQ H locs _ (W.aret (Qc := q_Qc G (x.1 + 3) post) hx hb hret (Or.inl ⟨n, rfl⟩) (Or.inr ⟨_, rfl⟩) (fun t ht hWm => ⟨⟨some (.inr (.inr x)), S, rfl, ?_, h, by rw [ht]; exact hH, hW.moved hWm.alike⟩, hS.F ht⟩) (fun q hq => hS.2.2 q hq) hd hlocks)
    obtain ⟨g, i0⟩ := x
    exact ⟨i0, rfl, q_okA (q_okH hos) (of_decide_eq_true hrt)⟩

set_option maxHeartbeats 1000000 in
theorem q_s43 (Z : q_Sx mt p l e R s m args below meth c Q G cc nL own d K ret rt post mc ms) {a b dd : Nat} {z : Int32} {zl : Int64} {w : List (Int32 × Nat)} {i : Instr} {len : Nat} (hd : decode cc pc = .ok (i, len)) (he : (i, len) ∈ q_exp K B len (43, pc, a, b, dd, z, zl, w)) (hc : q_ckx mt nL ret (43, pc, a, b, dd, z, zl, w) = true) (hrt : q_rtok rt ret = true)
    (h : q_op mt l d rt (fun b ls st S => q_At p l e R s m args below meth c Q G nL (q_bp B b) ls st S) post (43, pc, a, b, dd, z, zl, w) ls st S (fun ls st S => q_At p l e R s m args below meth c Q G nL (pc + len) ls st S)) : q_At p l e R s m args below meth c Q G nL (pc) ls st S := by
  obtain ⟨X, hK, hret, hlocks, hQ⟩ := Z
  obtain ⟨hx, hb, hml, hown, hts, hW, hR, hfo, hE⟩ := id X
  intro H locs arr hH hS hl hol hos
  obtain ⟨hn, hw8, h⟩ : b ≤ st.length ∧ q_w (st.drop b) ≤ 8 ∧ q_call mt l d a dd (st.take b).reverse S (fun v S' => q_At p l e R s m args below meth c Q G nL (pc + len) ls (v ++ st.drop b) S') := h
  simp only [q_exp, List.mem_map, List.mem_filter, decide_eq_true_eq] at he
  obtain ⟨q, ⟨h1, h2, h3, h4⟩, h5⟩ := he
  cases h5
  obtain ⟨idx, y1, y2, y3⟩ := q
  dsimp only at h2 h3 h4
  subst h2; subst h3; subst h4
  obtain ⟨d', post', hlt, hM, hk⟩ := q_call_elim h
  have hcp := hK.1 _ h1
  unfold q_cpok at hcp
  obtain ⟨q, hq, w1, w2, w3, w4, hdd, h150⟩ := hcp
  have hrun := va_runS (g := F0 m pc arr (st.map (q_cv G))) (As := (st.take y3).reverse.map (q_cv G)) (rest := (st.drop y3).map (q_cv G)) (Ts := q_TB) (e := e) (below := below) (meth := meth) (locs := locs) (cells := 0) (slots := 0) ⟨hx, hb, hml, hown, hts⟩ (hM G q hq) (bytes := q.2.1) (maxL := q.2.2.1) (ret := q.2.2.2) (n := y3) ⟨q_callB hts hlt hR w1 w3 w4 hdd h150, hts _ w2⟩ ⟨q_Pc_blind G _ S, fun U hU hWm => ⟨rfl, hW.moved hWm.alike, by rw [hU]; exact hH, q_oks_args hos, q_E.go hS hWm hU hE⟩⟩ rfl (by simp; omega) hl.1 (q_split hn) (by rw [q_w_map]; exact lv_roomN hw8) hd ⟨Nat.zero_le _, Nat.zero_le _⟩
  exact q_after hrun hS (fun r S' H1 locs1 hty hp hH1 hS1 => q_back (hk r S' hty hp H1 locs1 arr hH1 hS1 hl hol (q_oks_res hty (q_oks_drop hos))))

set_option maxHeartbeats 1000000 in
theorem q_s55 (Z : q_Sx mt p l e R s m args below meth c Q G cc nL own d K ret rt post mc ms) {a b dd : Nat} {z : Int32} {zl : Int64} {w : List (Int32 × Nat)} {i : Instr} {len : Nat} (hd : decode cc pc = .ok (i, len)) (he : (i, len) ∈ q_exp K B len (55, pc, a, b, dd, z, zl, w)) (hc : q_ckx mt nL ret (55, pc, a, b, dd, z, zl, w) = true) (hrt : q_rtok rt ret = true)
    (h : q_op mt l d rt (fun b ls st S => q_At p l e R s m args below meth c Q G nL (q_bp B b) ls st S) post (55, pc, a, b, dd, z, zl, w) ls st S (fun ls st S => q_At p l e R s m args below meth c Q G nL (pc + len) ls st S)) : q_At p l e R s m args below meth c Q G nL (pc) ls st S := by
  obtain ⟨X, hK, hret, hlocks, hQ⟩ := Z
  obtain ⟨hx, hb, hml, hown, hts, hW, hR, hfo, hE⟩ := id X
  intro H locs arr hH hS hl hol hos
  obtain ⟨hn, hw8, h⟩ : b ≤ st.length ∧ q_w (st.drop b) ≤ 8 ∧ q_call mt l d a dd (st.take b).reverse S (fun v S' => q_At p l e R s m args below meth c Q G nL (pc + len) ls (v ++ st.drop b) S') := h
  simp only [q_exp, List.mem_map, List.mem_filter, decide_eq_true_eq] at he
  obtain ⟨q, ⟨h1, h2, h3, h4⟩, h5⟩ := he
  cases h5
  obtain ⟨idx, y1, y2, y3⟩ := q
  dsimp only at h2 h3 h4
  subst h2; subst h3; subst h4
  obtain ⟨d', post', hlt, hM, hk⟩ := q_call_elim h
  have hcp := hK.1 _ h1
  unfold q_cpok at hcp
  obtain ⟨q, hq, ho1, hk1, hq1, w2, w3, w4, hdd, h150⟩ := hcp
  subst hk1
  have hrun := va_runSN (host := "BlockedCars") (g := F0 m pc arr (st.map (q_cv G))) (As := (st.take y3).reverse.map (q_cv G)) (rest := (st.drop y3).map (q_cv G)) (Ts := q_TB) (e := e) (below := below) (meth := meth) (locs := locs) (cells := 0) (slots := 0) ⟨hx, hb, hml, hown, hts⟩ (hM G q hq) (bytes := q.2.1) (maxL := q.2.2.1) (ret := q.2.2.2) (n := y3) ⟨q_callN hts hlt hR (by rw [hq1, ho1]; exact hE.2.2.1) w3 w4 hdd h150, hts _ w2, trivial⟩ ⟨q_Pc_blind G _ S, fun U hU hWm => ⟨rfl, hW.moved hWm.alike, by rw [hU]; exact hH, q_oks_args hos, q_E.go hS hWm hU hE⟩⟩ rfl (by simp; omega) hl.1 (q_split hn) (by rw [q_w_map]; exact lv_roomN hw8) hd ⟨Nat.zero_le _, Nat.zero_le _⟩
  exact q_after hrun hS (fun r S' H1 locs1 hty hp hH1 hS1 => q_back (hk r S' hty hp H1 locs1 arr hH1 hS1 hl hol (q_oks_res hty (q_oks_drop hos))))

set_option maxHeartbeats 1000000 in
theorem q_s44 (Z : q_Sx mt p l e R s m args below meth c Q G cc nL own d K ret rt post mc ms) {a b dd : Nat} {z : Int32} {zl : Int64} {w : List (Int32 × Nat)} {i : Instr} {len : Nat} (hd : decode cc pc = .ok (i, len)) (he : (i, len) ∈ q_exp K B len (44, pc, a, b, dd, z, zl, w)) (hc : q_ckx mt nL ret (44, pc, a, b, dd, z, zl, w) = true) (hrt : q_rtok rt ret = true)
    (h : q_op mt l d rt (fun b ls st S => q_At p l e R s m args below meth c Q G nL (q_bp B b) ls st S) post (44, pc, a, b, dd, z, zl, w) ls st S (fun ls st S => q_At p l e R s m args below meth c Q G nL (pc + len) ls st S)) : q_At p l e R s m args below meth c Q G nL (pc) ls st S := by
  obtain ⟨X, hK, hret, hlocks, hQ⟩ := Z
  obtain ⟨hx, hb, hml, hown, hts, hW, hR, hfo, hE⟩ := id X
  intro H locs arr hH hS hl hol hos
  rcases w with _ | ⟨⟨w1, hh⟩, _ | ⟨w3, w4⟩⟩
  · exact h.elim
  case cons.cons => exact h.elim
  cases has : (st.take b).reverse with
  | nil => simp only [q_op, has] at h
  | cons v0 as =>
    rcases v0 with x | x | x
    · simp only [q_op, has] at h
    · simp only [q_op, has] at h
    · obtain ⟨f, i0⟩ := x
      simp only [q_op, has] at h
      obtain ⟨rfl, hn, hw8, h⟩ := h
      simp only [q_exp, List.mem_map, List.mem_filter, decide_eq_true_eq] at he
      obtain ⟨q, ⟨h1, h2, h3, h4⟩, h5⟩ := he
      cases h5
      obtain ⟨idx, y1, y2, y3⟩ := q
      dsimp only at h2 h3 h4
      subst h2; subst h3; subst h4
      obtain ⟨d', post', hlt, hM, hk⟩ := q_call_elim h
      have hcp := hK.1 _ h1
      unfold q_cpok at hcp
      obtain ⟨q, hq, w1, w2, w3, w4, w5, hdd, h150⟩ := hcp
      have hsp := q_split (G := G) hn
      rw [has] at hsp
      have hof : q_oks (.inr (.inr (f, i0)) :: as) := has ▸ q_oks_args hos
      have hrecv := q_recv hW hfo hH (q_okA (q_okH hof) (q_ck44 hc)) hq hc
      have hlen : as.length = y3 := by
        have := congrArg List.length has
        simp at this
        omega
      have hrun := va_runV (g := F0 m pc arr (st.map (q_cv G))) (As := as.map (q_cv G)) (b := G.1 f i0) (rest := (st.drop (y3 + 1)).map (q_cv G)) (Ts := q_TB) (e := e) (below := below) (meth := meth) (locs := locs) (cells := 0) (slots := 0) ⟨hx, hb, hml, hown, hts⟩ (hM G q hq) (bytes := q.2.1) (maxL := q.2.2.1) (ret := q.2.2.2) (n := y3) (C := q.1.cls) ⟨q_callB hts hlt hR w1 w4 w5 hdd h150, hts _ w2, hts _ w3⟩ ⟨q_Pc_blind G _ S, hrecv, fun U hU hWm => ⟨rfl, hW.moved hWm.alike, by rw [hU]; exact hH, hof, q_E.go hS hWm hU hE⟩⟩ rfl (by simp [hlen]) hl.1 (by simpa [q_cv] using hsp) (by rw [q_w_map]; exact lv_roomN hw8) hd ⟨Nat.zero_le _, Nat.zero_le _⟩
      exact q_after hrun hS (fun r S' H1 locs1 hty hp hH1 hS1 => q_back (hk r S' hty hp H1 locs1 arr hH1 hS1 hl hol (q_oks_res hty (q_oks_drop hos))))

set_option maxHeartbeats 1000000 in
theorem q_s25 (Z : q_Sx mt p l e R s m args below meth c Q G cc nL own d K ret rt post mc ms) {a b dd : Nat} {z : Int32} {zl : Int64} {w : List (Int32 × Nat)} {i : Instr} {len : Nat} (hd : decode cc pc = .ok (i, len)) (he : (i, len) ∈ q_exp K B len (25, pc, a, b, dd, z, zl, w)) (hc : q_ckx mt nL ret (25, pc, a, b, dd, z, zl, w) = true) (hrt : q_rtok rt ret = true)
    (h : q_op mt l d rt (fun b ls st S => q_At p l e R s m args below meth c Q G nL (q_bp B b) ls st S) post (25, pc, a, b, dd, z, zl, w) ls st S (fun ls st S => q_At p l e R s m args below meth c Q G nL (pc + len) ls st S)) : q_At p l e R s m args below meth c Q G nL (pc) ls st S := by
  obtain ⟨X, hK, hret, hlocks, hQ⟩ := Z
  obtain ⟨hx, hb, hml, hown, hts, hW, hR, hfo, hE⟩ := id X
  intro H locs arr hH hS hl hol hos
  rcases st with _ | ⟨v, r⟩
  · exact h.elim
  · rcases v with x | x | x
    case cons.inr.inl => exact h.elim
    case cons.inr.inr => exact h.elim
    have h : q_sw x (fun b => q_At p l e R s m args below meth c Q G nL (q_bp B b) ls r S) a w := h
    have k := fun pc' (h : q_At p l e R s m args below meth c Q G nL (pc') ls r S) => h H locs arr hH hS hl hol (q_okD hos)
    simp only [q_exp, List.mem_append] at he
    rcases he with he | he
    · split at he
      · rename_i g
        cases List.mem_singleton.mp he
        rcases q_sw_elim h with ⟨j, k1, b1, hj, hkx, hb1⟩ | ⟨hno, hb1⟩
        · have gj := of_decide_eq_true (List.all_eq_true.mp g j (List.mem_range.mpr (List.getElem?_eq_some_iff.mp hj).1))
          rw [hj] at gj
          have gj : k1.toInt = _ := Option.some.inj gj
          rw [hkx] at gj
          have hjl := (List.getElem?_eq_some_iff.mp hj).1
          refine lv_tableIn (tgt := q_bp B b1) (off := (q_bp B b1 : Int) - pc) hx hb hd (by omega) (by omega) ?_ q_sx (k _ hb1)
          rw [show (x.toInt - (Option.map (fun e => e.1.toInt) w.head?).getD 0).toNat = j by omega]
          simp [hj]
        · refine lv_tableOut (tgt := q_bp B a) hx hb hd ?_ q_sx (k _ hb1)
          refine Classical.byContradiction fun hnn => ?_
          have hnn := not_or.mp hnn
          obtain ⟨j, hj0⟩ : ∃ j : Nat, x.toInt = (Option.map (fun e => e.1.toInt) w.head?).getD 0 + j := ⟨(x.toInt - (Option.map (fun e => e.1.toInt) w.head?).getD 0).toNat, by omega⟩
          have hjl : j < w.length := by omega
          have gj := of_decide_eq_true (List.all_eq_true.mp g j (List.mem_range.mpr hjl))
          rw [List.getElem?_eq_getElem hjl] at gj
          have gj : (w[j]).1.toInt = _ := Option.some.inj gj
          exact hno _ (List.getElem_mem hjl) (Int32.toInt_inj.mp (by omega))
      · cases he
    · split at he
      · rename_i g
        cases List.mem_singleton.mp he
        rcases q_sw_look (B := B) (pc := pc) h with ⟨b1, hb1, ho⟩
        exact lv_lookup (tgt := q_bp B b1) hx hb hd (by simpa using g) (by simpa using ho) q_sx (k _ hb1)
      · cases he

set_option maxHeartbeats 1000000 in
theorem q_s56 (Z : q_Sx mt p l e R s m args below meth c Q G cc nL own d K ret rt post mc ms) {a b dd : Nat} {z : Int32} {zl : Int64} {w : List (Int32 × Nat)} {i : Instr} {len : Nat} (hd : decode cc pc = .ok (i, len)) (he : (i, len) ∈ q_exp K B len (56, pc, a, b, dd, z, zl, w)) (hc : q_ckx mt nL ret (56, pc, a, b, dd, z, zl, w) = true) (hrt : q_rtok rt ret = true)
    (h : q_op mt l d rt (fun b ls st S => q_At p l e R s m args below meth c Q G nL (q_bp B b) ls st S) post (56, pc, a, b, dd, z, zl, w) ls st S (fun ls st S => q_At p l e R s m args below meth c Q G nL (pc + len) ls st S)) : q_At p l e R s m args below meth c Q G nL (pc) ls st S := by
  obtain ⟨X, hK, hret, hlocks, hQ⟩ := Z
  obtain ⟨hx, hb, hml, hown, hts, hW, hR, hfo, hE⟩ := id X
  intro H locs arr hH hS hl hol hos
  rcases st with _ | ⟨v1, _ | ⟨v2, _ | ⟨v3, _ | ⟨v4, _ | ⟨v5, r⟩⟩⟩⟩⟩
  · exact h.elim
  · exact (by simp [q_op] at h)
  · exact (by simp [q_op] at h)
  · exact (by simp [q_op] at h)
  · exact (by simp [q_op] at h)
  · rcases v1 with n | x | x
    case cons.cons.cons.cons.cons.inr.inl => simp [q_op] at h
    case cons.cons.cons.cons.cons.inr.inr => simp [q_op] at h
    rcases v2 with dp | x | x
    case cons.cons.cons.cons.cons.inl.inr.inl => simp [q_op] at h
    case cons.cons.cons.cons.cons.inl.inr.inr => simp [q_op] at h
    rcases v3 with x | x | x
    case cons.cons.cons.cons.cons.inl.inl.inl => simp [q_op] at h
    case cons.cons.cons.cons.cons.inl.inl.inr.inl => simp [q_op] at h
    rcases v4 with p9 | y | y
    case cons.cons.cons.cons.cons.inl.inl.inr.inr.inr.inl => simp [q_op] at h
    case cons.cons.cons.cons.cons.inl.inl.inr.inr.inr.inr => simp [q_op] at h
    rcases v5 with y | y | y
    case cons.cons.cons.cons.cons.inl.inl.inr.inr.inl.inl => simp [q_op] at h
    case cons.cons.cons.cons.cons.inl.inl.inr.inr.inl.inr.inl => simp [q_op] at h
    obtain ⟨g, j⟩ := x
    obtain ⟨f, i0⟩ := y
    obtain ⟨rfl, rfl, hij, rfl, rfl, rfl, hd0, hw8, h⟩ : f = 27 ∧ g = 27 ∧ ¬ i0 = j ∧ n = 6 ∧ dp = 0 ∧ p9 = 0 ∧ 0 < d ∧ q_w r ≤ 8 ∧ q_At p l e R s m args below meth c Q G nL (pc + len) ls r (q_cp6 S i0 j) := h
    simp only [q_exp, List.mem_map, List.mem_filter, decide_eq_true_eq] at he
    obtain ⟨q, ⟨h1, h2⟩, h5⟩ := he
    cases h5
    obtain ⟨idx, y1, y2, y3⟩ := q
    dsimp only at h2
    subst h2
    have hl1 := hK.1 _ h1
    unfold q_cpok at hl1
    have hi : i0 < q_cnt 27 := q_okA (q_okH (q_okD (q_okD (q_okD (q_okD hos))))) (by decide)
    have hj : j < q_cnt 27 := q_okA (q_okH (q_okD (q_okD hos))) (by decide)
    exact q_acopy hx hb (hml.trans hl.1.symm) hown (hts _ hl1) hts hW hH hS hi hj hij (by omega) (by rw [q_w_map]; omega) hd (fun H' locs' hH' hS' => h H' locs' arr hH' hS' hl hol (q_okD (q_okD (q_okD (q_okD (q_okD hos))))))

set_option maxHeartbeats 1000000 in
theorem q_s54 (Z : q_Sx mt p l e R s m args below meth c Q G cc nL own d K ret rt post mc ms) {a b dd : Nat} {z : Int32} {zl : Int64} {w : List (Int32 × Nat)} {i : Instr} {len : Nat} (hd : decode cc pc = .ok (i, len)) (he : (i, len) ∈ q_exp K B len (54, pc, a, b, dd, z, zl, w)) (hc : q_ckx mt nL ret (54, pc, a, b, dd, z, zl, w) = true) (hrt : q_rtok rt ret = true)
    (h : q_op mt l d rt (fun b ls st S => q_At p l e R s m args below meth c Q G nL (q_bp B b) ls st S) post (54, pc, a, b, dd, z, zl, w) ls st S (fun ls st S => q_At p l e R s m args below meth c Q G nL (pc + len) ls st S)) : q_At p l e R s m args below meth c Q G nL (pc) ls st S := by
  obtain ⟨X, hK, hret, hlocks, hQ⟩ := Z
  obtain ⟨hx, hb, hml, hown, hts, hW, hR, hfo, hE⟩ := id X
  intro H locs arr hH hS hl hol hos
  have h : q_At p l e R s m args below meth c Q G nL (pc + len) ls (.inr (.inr (99, a)) :: st) S := h
  simp only [q_exp, List.mem_map, List.mem_filter, decide_eq_true_eq] at he
  obtain ⟨q, ⟨h1, h2⟩, h5⟩ := he
  cases h5
  subst h2
  exact va_ldcS hx hb hown (hE.2.1 _ (hK.2.2.2 q h1)) hd (h H locs arr hH hS hl hol (q_okT (Or.inr ⟨Nat.le_of_ble_eq_true rfl, q_sref_lt _ (hK.2.2.2 q h1)⟩) hos))

set_option maxHeartbeats 1000000 in
theorem q_s57 (Z : q_Sx mt p l e R s m args below meth c Q G cc nL own d K ret rt post mc ms) {a b dd : Nat} {z : Int32} {zl : Int64} {w : List (Int32 × Nat)} {i : Instr} {len : Nat} (hd : decode cc pc = .ok (i, len)) (he : (i, len) ∈ q_exp K B len (57, pc, a, b, dd, z, zl, w)) (hc : q_ckx mt nL ret (57, pc, a, b, dd, z, zl, w) = true) (hrt : q_rtok rt ret = true)
    (h : q_op mt l d rt (fun b ls st S => q_At p l e R s m args below meth c Q G nL (q_bp B b) ls st S) post (57, pc, a, b, dd, z, zl, w) ls st S (fun ls st S => q_At p l e R s m args below meth c Q G nL (pc + len) ls st S)) : q_At p l e R s m args below meth c Q G nL (pc) ls st S := by
  obtain ⟨X, hK, hret, hlocks, hQ⟩ := Z
  obtain ⟨hx, hb, hml, hown, hts, hW, hR, hfo, hE⟩ := id X
  intro H locs arr hH hS hl hol hos
  rcases st with _ | ⟨v, r⟩
  · exact h.elim
  · rcases v with x | x | x
    case cons.inl => exact h.elim
    case cons.inr.inl => exact h.elim
    obtain ⟨g, i0⟩ := x
    obtain ⟨rfl, h⟩ : g = 99 ∧ q_At p l e R s m args below meth c Q G nL (pc + len) ls (.inr (.inr (98, i0)) :: r) S := h
    have hi : i0 < 20 := q_ok99 (q_okH hos) (by decide)
    simp only [q_exp, List.mem_map, List.mem_filter, decide_eq_true_eq] at he
    obtain ⟨q, ⟨h1, h2, h3⟩, h5⟩ := he
    cases h5
    obtain ⟨idx, y1, y2, y3⟩ := q
    dsimp only at h2 h3
    subst h2; subst h3
    have hl1 := hK.1 _ h1
    unfold q_cpok at hl1
    exact vk_getf hx hb (hE.1.1 i0 hi).2.2.1 hS hown (hts _ hl1) (fun _ h => h) hd (h H locs arr hH hS hl hol (q_okT (Or.inr ⟨Nat.le_of_ble_eq_true rfl, hi⟩) (q_okD hos)))

set_option maxHeartbeats 1000000 in
theorem q_s58 (Z : q_Sx mt p l e R s m args below meth c Q G cc nL own d K ret rt post mc ms) {a b dd : Nat} {z : Int32} {zl : Int64} {w : List (Int32 × Nat)} {i : Instr} {len : Nat} (hd : decode cc pc = .ok (i, len)) (he : (i, len) ∈ q_exp K B len (58, pc, a, b, dd, z, zl, w)) (hc : q_ckx mt nL ret (58, pc, a, b, dd, z, zl, w) = true) (hrt : q_rtok rt ret = true)
    (h : q_op mt l d rt (fun b ls st S => q_At p l e R s m args below meth c Q G nL (q_bp B b) ls st S) post (58, pc, a, b, dd, z, zl, w) ls st S (fun ls st S => q_At p l e R s m args below meth c Q G nL (pc + len) ls st S)) : q_At p l e R s m args below meth c Q G nL (pc) ls st S := by
  obtain ⟨X, hK, hret, hlocks, hQ⟩ := Z
  obtain ⟨hx, hb, hml, hown, hts, hW, hR, hfo, hE⟩ := id X
  intro H locs arr hH hS hl hol hos
  rcases st with _ | ⟨v, r⟩
  · exact h.elim
  · rcases v with x | x | x
    case cons.inl => exact h.elim
    case cons.inr.inl => exact h.elim
    obtain ⟨g, i0⟩ := x
    obtain ⟨rfl, h⟩ : g = 99 ∧ q_At p l e R s m args below meth c Q G nL (pc + len) ls (.inl 0 :: r) S := h
    have hi : i0 < 20 := q_ok99 (q_okH hos) (by decide)
    simp only [q_exp, List.mem_map, List.mem_filter, decide_eq_true_eq] at he
    obtain ⟨q, ⟨h1, h2, h3⟩, h5⟩ := he
    cases h5
    obtain ⟨idx, y1, y2, y3⟩ := q
    dsimp only at h2 h3
    subst h2; subst h3
    have hl1 := hK.1 _ h1
    unfold q_cpok at hl1
    exact vk_getf hx hb (hE.1.1 i0 hi).2.1 hS hown (hts _ hl1) (fun _ h => h) hd (h H locs arr hH hS hl hol (q_okT trivial (q_okD hos)))

set_option maxHeartbeats 1000000 in
theorem q_s59 (Z : q_Sx mt p l e R s m args below meth c Q G cc nL own d K ret rt post mc ms) {a b dd : Nat} {z : Int32} {zl : Int64} {w : List (Int32 × Nat)} {i : Instr} {len : Nat} (hd : decode cc pc = .ok (i, len)) (he : (i, len) ∈ q_exp K B len (59, pc, a, b, dd, z, zl, w)) (hc : q_ckx mt nL ret (59, pc, a, b, dd, z, zl, w) = true) (hrt : q_rtok rt ret = true)
    (h : q_op mt l d rt (fun b ls st S => q_At p l e R s m args below meth c Q G nL (q_bp B b) ls st S) post (59, pc, a, b, dd, z, zl, w) ls st S (fun ls st S => q_At p l e R s m args below meth c Q G nL (pc + len) ls st S)) : q_At p l e R s m args below meth c Q G nL (pc) ls st S := by
  obtain ⟨X, hK, hret, hlocks, hQ⟩ := Z
  obtain ⟨hx, hb, hml, hown, hts, hW, hR, hfo, hE⟩ := id X
  intro H locs arr hH hS hl hol hos
  have h : q_At p l e R s m args below meth c Q G nL (pc + len) ls (.inl 1 :: st) S := h
  simp only [q_exp, List.mem_map, List.mem_filter, decide_eq_true_eq] at he
  obtain ⟨q, ⟨h1, h2, h3⟩, h5⟩ := he
  cases h5
  obtain ⟨idx, y1, y2, y3⟩ := q
  dsimp only at h2 h3
  subst h2; subst h3
  have hl1 := hK.1 _ h1
  unfold q_cpok at hl1
  exact va_gets hx hb hE.2.2.2.1 hS hown (hts _ hl1) (fun _ h => h) hd (h H locs arr hH hS hl hol (q_okT trivial hos))

set_option maxHeartbeats 1000000 in
theorem q_s60 (Z : q_Sx mt p l e R s m args below meth c Q G cc nL own d K ret rt post mc ms) {a b dd : Nat} {z : Int32} {zl : Int64} {w : List (Int32 × Nat)} {i : Instr} {len : Nat} (hd : decode cc pc = .ok (i, len)) (he : (i, len) ∈ q_exp K B len (60, pc, a, b, dd, z, zl, w)) (hc : q_ckx mt nL ret (60, pc, a, b, dd, z, zl, w) = true) (hrt : q_rtok rt ret = true)
    (h : q_op mt l d rt (fun b ls st S => q_At p l e R s m args below meth c Q G nL (q_bp B b) ls st S) post (60, pc, a, b, dd, z, zl, w) ls st S (fun ls st S => q_At p l e R s m args below meth c Q G nL (pc + len) ls st S)) : q_At p l e R s m args below meth c Q G nL (pc) ls st S := by
  obtain ⟨X, hK, hret, hlocks, hQ⟩ := Z
  obtain ⟨hx, hb, hml, hown, hts, hW, hR, hfo, hE⟩ := id X
  intro H locs arr hH hS hl hol hos
  simp only [q_exp, List.not_mem_nil] at he

set_option maxHeartbeats 1000000 in
theorem q_s61 (Z : q_Sx mt p l e R s m args below meth c Q G cc nL own d K ret rt post mc ms) {a b dd : Nat} {z : Int32} {zl : Int64} {w : List (Int32 × Nat)} {i : Instr} {len : Nat} (hd : decode cc pc = .ok (i, len)) (he : (i, len) ∈ q_exp K B len (61, pc, a, b, dd, z, zl, w)) (hc : q_ckx mt nL ret (61, pc, a, b, dd, z, zl, w) = true) (hrt : q_rtok rt ret = true)
    (h : q_op mt l d rt (fun b ls st S => q_At p l e R s m args below meth c Q G nL (q_bp B b) ls st S) post (61, pc, a, b, dd, z, zl, w) ls st S (fun ls st S => q_At p l e R s m args below meth c Q G nL (pc + len) ls st S)) : q_At p l e R s m args below meth c Q G nL (pc) ls st S := by
  obtain ⟨X, hK, hret, hlocks, hQ⟩ := Z
  obtain ⟨hx, hb, hml, hown, hts, hW, hR, hfo, hE⟩ := id X
  intro H locs arr hH hS hl hol hos
  rcases st with _ | ⟨v, r⟩
  · exact h.elim
  · rcases v with x | x | x
    case cons.inl => exact h.elim
    case cons.inr.inl => exact h.elim
    obtain ⟨g, i0⟩ := x
    obtain ⟨rfl, h⟩ : g = 98 ∧ q_At p l e R s m args below meth c Q G nL (pc + len) ls (.inl (Int32.ofNat (q_slen.getD i0 0)) :: r) S := h
    cases List.mem_singleton.mp he
    have hi : i0 < 20 := q_ok99 (q_okH hos) (by decide)
    exact va_tlen hx hb (hE.1.1 i0 hi).2.2.2 hS rfl hd (h H locs arr hH hS hl hol (q_okT trivial (q_okD hos)))

set_option maxHeartbeats 1000000 in
theorem q_s62 (Z : q_Sx mt p l e R s m args below meth c Q G cc nL own d K ret rt post mc ms) {a b dd : Nat} {z : Int32} {zl : Int64} {w : List (Int32 × Nat)} {i : Instr} {len : Nat} (hd : decode cc pc = .ok (i, len)) (he : (i, len) ∈ q_exp K B len (62, pc, a, b, dd, z, zl, w)) (hc : q_ckx mt nL ret (62, pc, a, b, dd, z, zl, w) = true) (hrt : q_rtok rt ret = true)
    (h : q_op mt l d rt (fun b ls st S => q_At p l e R s m args below meth c Q G nL (q_bp B b) ls st S) post (62, pc, a, b, dd, z, zl, w) ls st S (fun ls st S => q_At p l e R s m args below meth c Q G nL (pc + len) ls st S)) : q_At p l e R s m args below meth c Q G nL (pc) ls st S := by
  obtain ⟨X, hK, hret, hlocks, hQ⟩ := Z
  obtain ⟨hx, hb, hml, hown, hts, hW, hR, hfo, hE⟩ := id X
  intro H locs arr hH hS hl hol hos
  rcases st with _ | ⟨v1, _ | ⟨v2, r⟩⟩
  · exact h.elim
  · rcases v1 with x | x | x <;> exact h.elim
  · rcases v1 with y | y | y <;> rcases v2 with x | x | x
    case cons.cons.inl.inl => exact h.elim
    case cons.cons.inl.inr.inl => exact h.elim
    case cons.cons.inr.inl.inl => exact h.elim
    case cons.cons.inr.inl.inr.inl => exact h.elim
    case cons.cons.inr.inl.inr.inr => exact h.elim
    case cons.cons.inr.inr.inl => exact h.elim
    case cons.cons.inr.inr.inr.inl => exact h.elim
    case cons.cons.inr.inr.inr.inr => exact h.elim
    obtain ⟨g, i0⟩ := x
    obtain ⟨rfl, hin, h⟩ : g = 98 ∧ vp_in y (q_slen.getD i0 0) ∧ q_At p l e R s m args below meth c Q G nL (pc + len) ls (.inl ((q_sbyt.getD i0 []).getD y.toNatClampNeg 0) :: r) S := h
    cases List.mem_singleton.mp he
    have hi : i0 < 20 := q_ok99 (q_okH (q_okD hos)) (by decide)
    exact va_tb hx hb (hE.1.1 i0 hi).2.2.2 hS hin rfl hd (h H locs arr hH hS hl hol (q_okT trivial (q_okD (q_okD hos))))

set_option maxHeartbeats 1000000 in
theorem q_s63 (Z : q_Sx mt p l e R s m args below meth c Q G cc nL own d K ret rt post mc ms) {a b dd : Nat} {z : Int32} {zl : Int64} {w : List (Int32 × Nat)} {i : Instr} {len : Nat} (hd : decode cc pc = .ok (i, len)) (he : (i, len) ∈ q_exp K B len (63, pc, a, b, dd, z, zl, w)) (hc : q_ckx mt nL ret (63, pc, a, b, dd, z, zl, w) = true) (hrt : q_rtok rt ret = true)
    (h : q_op mt l d rt (fun b ls st S => q_At p l e R s m args below meth c Q G nL (q_bp B b) ls st S) post (63, pc, a, b, dd, z, zl, w) ls st S (fun ls st S => q_At p l e R s m args below meth c Q G nL (pc + len) ls st S)) : q_At p l e R s m args below meth c Q G nL (pc) ls st S := by
  obtain ⟨X, hK, hret, hlocks, hQ⟩ := Z
  obtain ⟨hx, hb, hml, hown, hts, hW, hR, hfo, hE⟩ := id X
  intro H locs arr hH hS hl hol hos
  rcases st with _ | ⟨v, r⟩
  · exact h.elim
  · rcases v with x | x | x
    case cons.inr.inl => exact h.elim
    case cons.inr.inr => exact h.elim
    have h : q_At p l e R s m args below meth c Q G nL (pc + len) ls (.inl (x.toUInt32 % 65536).toInt32 :: r) S := h
    cases List.mem_singleton.mp he
    exact lv_i2c hx hb hd rfl (h H locs arr hH hS hl hol (q_okT trivial (q_okD hos)))

set_option maxHeartbeats 1000000 in
theorem q_s64 (Z : q_Sx mt p l e R s m args below meth c Q G cc nL own d K ret rt post mc ms) {a b dd : Nat} {z : Int32} {zl : Int64} {w : List (Int32 × Nat)} {i : Instr} {len : Nat} (hd : decode cc pc = .ok (i, len)) (he : (i, len) ∈ q_exp K B len (64, pc, a, b, dd, z, zl, w)) (hc : q_ckx mt nL ret (64, pc, a, b, dd, z, zl, w) = true) (hrt : q_rtok rt ret = true)
    (h : q_op mt l d rt (fun b ls st S => q_At p l e R s m args below meth c Q G nL (q_bp B b) ls st S) post (64, pc, a, b, dd, z, zl, w) ls st S (fun ls st S => q_At p l e R s m args below meth c Q G nL (pc + len) ls st S)) : q_At p l e R s m args below meth c Q G nL (pc) ls st S := by
  obtain ⟨X, hK, hret, hlocks, hQ⟩ := Z
  obtain ⟨hx, hb, hml, hown, hts, hW, hR, hfo, hE⟩ := id X
  intro H locs arr hH hS hl hol hos
  cases has : (st.take b).reverse with
  | nil => simp only [q_op, has] at h
  | cons v0 as =>
    rcases v0 with x | x | x
    · simp only [q_op, has] at h
    · simp only [q_op, has] at h
    · obtain ⟨f, i0⟩ := x
      simp only [q_op, has] at h
      obtain ⟨rfl, hn, hw8, h⟩ := h
      simp only [q_exp, List.mem_map, List.mem_filter, decide_eq_true_eq] at he
      obtain ⟨q, ⟨h1, h2, h3, h4⟩, h5⟩ := he
      cases h5
      obtain ⟨idx, y1, y2, y3⟩ := q
      dsimp only at h2 h3 h4
      subst h2; subst h3; subst h4
      obtain ⟨d', post', hlt, hM, hk⟩ := q_call_elim h
      have hcp := hK.1 _ h1
      unfold q_cpok at hcp
      obtain ⟨q, hq, w1, w2, w3, w4, w5, hdd, h150⟩ := hcp
      have hsp := q_split (G := G) hn
      rw [has] at hsp
      have hof : q_oks (.inr (.inr (99, i0)) :: as) := has ▸ q_oks_args hos
      have hi : i0 < 20 := q_ok99 (q_okH hof) (by decide)
      have hcl : q.1.cls = "java/lang/String" := by
        have hc : (match mt y2 with
          | some q => decide (q.1.cls = "java/lang/String")
          | _ => false) = true := hc
        rw [hq] at hc
        exact of_decide_eq_true hc
      have hrecv : ∃ cellB : Cell, H[G.1 99 i0]? = some cellB ∧ cellB.vm.isStatics = false ∧ s.vm.findClass q.1.cls = some cellB.cls := by
        rw [hcl]
        exact vk_recv hE.1 hi hS
      have hlen : as.length = y3 := by
        have := congrArg List.length has
        simp at this
        omega
      have hrun := va_runV (g := F0 m pc arr (st.map (q_cv G))) (As := as.map (q_cv G)) (b := G.1 99 i0) (rest := (st.drop (y3 + 1)).map (q_cv G)) (Ts := q_TB) (e := e) (below := below) (meth := meth) (locs := locs) (cells := 0) (slots := 0) ⟨hx, hb, hml, hown, hts⟩ (hM G q hq) (bytes := q.2.1) (maxL := q.2.2.1) (ret := q.2.2.2) (n := y3) (C := q.1.cls) ⟨q_callB hts hlt hR w1 w4 w5 hdd h150, hts _ w2, hts _ w3⟩ ⟨q_Pc_blind G _ S, hrecv, fun U hU hWm => ⟨rfl, hW.moved hWm.alike, by rw [hU]; exact hH, hof, q_E.go hS hWm hU hE⟩⟩ rfl (by simp [hlen]) hl.1 (by simpa [q_cv] using hsp) (by rw [q_w_map]; exact lv_roomN hw8) hd ⟨Nat.zero_le _, Nat.zero_le _⟩
      exact q_after hrun hS (fun r S' H1 locs1 hty hp hH1 hS1 => q_back (hk r S' hty hp H1 locs1 arr hH1 hS1 hl hol (q_oks_res hty (q_oks_drop hos))))

set_option maxHeartbeats 1000000 in
theorem q_s65 (Z : q_Sx mt p l e R s m args below meth c Q G cc nL own d K ret rt post mc ms) {a b dd : Nat} {z : Int32} {zl : Int64} {w : List (Int32 × Nat)} {i : Instr} {len : Nat} (hd : decode cc pc = .ok (i, len)) (he : (i, len) ∈ q_exp K B len (65, pc, a, b, dd, z, zl, w)) (hc : q_ckx mt nL ret (65, pc, a, b, dd, z, zl, w) = true) (hrt : q_rtok rt ret = true)
    (h : q_op mt l d rt (fun b ls st S => q_At p l e R s m args below meth c Q G nL (q_bp B b) ls st S) post (65, pc, a, b, dd, z, zl, w) ls st S (fun ls st S => q_At p l e R s m args below meth c Q G nL (pc + len) ls st S)) : q_At p l e R s m args below meth c Q G nL (pc) ls st S := by
  obtain ⟨X, hK, hret, hlocks, hQ⟩ := Z
  obtain ⟨hx, hb, hml, hown, hts, hW, hR, hfo, hE⟩ := id X
  intro H locs arr hH hS hl hol hos
  rcases st with _ | ⟨v, r⟩
  · exact h.elim
  · rcases v with x | x | x
    case cons.inr.inl => exact h.elim
    case cons.inr.inr => exact h.elim
    rcases r with _ | ⟨r1, r2⟩
    case cons.inl.cons => exact h.elim
    cases List.mem_singleton.mp he
    have hc := of_decide_eq_true hc
    subst hc
    obtain ⟨hnar, h⟩ := h
    have h : post (some (.inl x)) S := h
    refine hQ H locs _ (W.zret (Qc := q_Qc G rt post) hx hb hret (by rw [← hnar]; exact pk_nb x) (fun t ht hWm => ⟨⟨some (.inl x), S, rfl, ?_, h, by rw [ht]; exact hH, hW.moved hWm.alike⟩, hS.F ht⟩) (fun q hq => hS.2.2 q hq) hd hlocks)
    rw [q_rt1b hrt]
    exact ⟨x, rfl⟩

set_option maxHeartbeats 1000000 in
theorem q_s66 (Z : q_Sx mt p l e R s m args below meth c Q G cc nL own d K ret rt post mc ms) {a b dd : Nat} {z : Int32} {zl : Int64} {w : List (Int32 × Nat)} {i : Instr} {len : Nat} (hd : decode cc pc = .ok (i, len)) (he : (i, len) ∈ q_exp K B len (66, pc, a, b, dd, z, zl, w)) (hc : q_ckx mt nL ret (66, pc, a, b, dd, z, zl, w) = true) (hrt : q_rtok rt ret = true)
    (h : q_op mt l d rt (fun b ls st S => q_At p l e R s m args below meth c Q G nL (q_bp B b) ls st S) post (66, pc, a, b, dd, z, zl, w) ls st S (fun ls st S => q_At p l e R s m args below meth c Q G nL (pc + len) ls st S)) : q_At p l e R s m args below meth c Q G nL (pc) ls st S := by
  obtain ⟨X, hK, hret, hlocks, hQ⟩ := Z
  obtain ⟨hx, hb, hml, hown, hts, hW, hR, hfo, hE⟩ := id X
  intro H locs arr hH hS hl hol hos
  rcases st with _ | ⟨v, r⟩
  · exact h.elim
  · rcases v with x | x | x
    case cons.inr.inl => exact h.elim
    case cons.inr.inr => exact h.elim
    rcases r with _ | ⟨r1, r2⟩
    case cons.inl.cons => exact h.elim
    cases List.mem_singleton.mp he
    have hc := of_decide_eq_true hc
    subst hc
    obtain ⟨hnar, h⟩ := h
    have h : post (some (.inl x)) S := h
    refine hQ H locs _ (W.zret (Qc := q_Qc G rt post) hx hb hret (by rw [← hnar]; exact pk_nc x) (fun t ht hWm => ⟨⟨some (.inl x), S, rfl, ?_, h, by rw [ht]; exact hH, hW.moved hWm.alike⟩, hS.F ht⟩) (fun q hq => hS.2.2 q hq) hd hlocks)
    rw [q_rt1c hrt]
    exact ⟨x, rfl⟩

end QU
