/-! What the constructors' machine says of the heap -/
def gB (D : va_G) (base : Nat) : qG := (fun _ i => base + i, fun _ _ => D.1 0, D)
def k_val (D : va_G) (base : Nat) : kW → Value
  | none => .null
  | some v => q_cv (gB D base) v
def k_cel (D : va_G) (base : Nat) (cA : ClassId) (c : kC) : va_E := match c with
  | .inl o => .inr (o.1, o.2.map (k_val D base))
  | .inr (0, n, w) => .inl (cA, n, .inl (fun j => k_int (k_look w j)))
  | .inr (1, n, w) => .inl (cA, n, .inl (fun j => k_int (k_look w j)))
  | .inr (2, n, _) => .inl (cA, n, .inr (.inl (fun _ => 0)))
  | .inr (_, n, w) => .inl (cA, n, .inr (.inr (.inr (.inr (fun j => k_ref base (k_look w j))))))
def k_ty (t : Nat) : FieldType := match t with
  | 0 => .int
  | 1 => .byte
  | 2 => .long
  | 3 => .object "BlockedCars$Position"
  | 4 => .object "BlockedCars$Past"
  | _ => .array .int
def k_ws (D : va_G) (base : Nat) (cid : Nat → ClassId) (kh : List kC) : va_W := kh.mapIdx (fun k c => (base + k, k_cel D base (cid k) c))
theorem k_ws_get {D : va_G} {base : Nat} {cid : Nat → ClassId} {kh : List kC} {k : Nat} : (k_ws D base cid kh)[k]? = (kh[k]?).map (fun c => (base + k, k_cel D base (cid k) c)) := by
  unfold k_ws
  rw [List.getElem?_mapIdx]
theorem k_ws_len {D : va_G} {base : Nat} {cid : Nat → ClassId} {kh : List kC} : (k_ws D base cid kh).length = kh.length := by
  unfold k_ws
  rw [List.length_mapIdx]
theorem k_ws_set {D : va_G} {base : Nat} {cid : Nat → ClassId} {kh : List kC} {k : Nat} {c : kC} (hk : k < kh.length) : (k_ws D base cid kh).set k (base + k, k_cel D base (cid k) c) = k_ws D base cid (kh.set k c) := by
  apply List.ext_getElem?
  intro j
  rw [k_ws_get, List.getElem?_set, List.getElem?_set, k_ws_len, k_ws_get]
  by_cases e : k = j
  · subst e
    rw [if_pos rfl, if_pos rfl, if_pos hk, if_pos hk]
    rfl
  · rw [if_neg e, if_neg e]
def k_upd (cid : Nat → ClassId) (n : Nat) (cA : ClassId) : Nat → ClassId := fun k => if k = n then cA else cid k
theorem k_ws_app {D : va_G} {base : Nat} {cid : Nat → ClassId} {kh : List kC} {cA : ClassId} {c : kC} : k_ws D base (k_upd cid kh.length cA) (kh ++ [c]) = k_ws D base cid kh ++ [(base + kh.length, k_cel D base cA c)] := by
  apply List.ext_getElem?
  intro j
  rw [k_ws_get]
  by_cases e : j < kh.length
  · rw [List.getElem?_append_left e, List.getElem?_append_left (by rw [k_ws_len]; exact e), k_ws_get]
    unfold k_upd
    rw [if_neg (by omega)]
  · rw [List.getElem?_append_right (by omega), List.getElem?_append_right (by rw [k_ws_len]; omega), k_ws_len]
    by_cases e2 : j = kh.length
    · subst e2
      rw [Nat.sub_self]
      unfold k_upd
      simp
    · obtain ⟨m, hm⟩ : ∃ m, j - kh.length = m + 1 := ⟨j - kh.length - 1, by omega⟩
      rw [hm]
      rfl
def k_TT (s : State) (cid : Nat → ClassId) (kh : List kC) : Prop := ∀ k ty n w, kh[k]? = some (.inr (ty, n, w)) → ArrOfT s (cid k) (k_ty ty) ∧ va_RA s (cid k) (k_ty ty)
def k_HH (D : va_G) (base : Nat) (cid : Nat → ClassId) (s : State) (kh : List kC) (H : Heap) : Prop := va_P D vwCl (k_ws D base cid kh) H ∧ k_TT s cid kh
theorem k_HH.moved {D : va_G} {base : Nat} {cid : Nat → ClassId} {u U : State} {kh : List kC} {H : Heap} (hvm : u.vm.Alike U.vm) (h : k_HH D base cid u kh H) : k_HH D base cid U kh H := ⟨h.1, fun k ty n w hk => ⟨arrOfT_moved hvm (h.2 k ty n w hk).1, (h.2 k ty n w hk).2.moved hvm⟩⟩
def k_A (base : Nat) : Nat → Prop := fun q => base ≤ q
theorem k_D {D : va_G} {base : Nat} {cid : Nat → ClassId} {kh : List kC} : va_D (k_A base) (k_ws D base cid kh) := by
  refine ⟨fun i j p q hi hj e => ?_, fun k q hk => ?_⟩
  · rw [k_ws_get] at hi hj
    obtain ⟨c, -, rfl⟩ := Option.map_eq_some_iff.mp hi
    obtain ⟨c', -, rfl⟩ := Option.map_eq_some_iff.mp hj
    have e : base + i = base + j := e
    omega
  · rw [k_ws_get] at hk
    obtain ⟨c, -, rfl⟩ := Option.map_eq_some_iff.mp hk
    exact Nat.le_add_right _ _
/-- a cell came: its address is the next one -/
theorem k_next {D : va_G} {base : Nat} {cid : Nat → ClassId} {kh : List kC} {H1 : Heap} {q : Nat} {E : va_E} (hP : va_P D vwCl (k_ws D base cid kh ++ [(q, E)]) H1) (hD : va_D (k_A base) (k_ws D base cid kh ++ [(q, E)])) (hz : H1.size ≤ base + kh.length + 1) : q = base + kh.length := by
  have hlast : (k_ws D base cid kh ++ [(q, E)])[kh.length]? = some (q, E) := by
    rw [List.getElem?_append_right (by rw [k_ws_len]; exact Nat.le_refl _), k_ws_len, Nat.sub_self]
    rfl
  have h1 : q < H1.size := (hP _ _ hlast).lt
  have h2 : base ≤ q := hD.2 _ _ hlast
  by_cases e : q = base + kh.length
  · exact e
  · have hk : q - base < kh.length := by omega
    have hg : (k_ws D base cid kh ++ [(q, E)])[q - base]? = some (base + (q - base), k_cel D base (cid (q - base)) kh[q - base]) := by
      rw [List.getElem?_append_left (by rw [k_ws_len]; exact hk), k_ws_get, List.getElem?_eq_getElem hk]
      rfl
    have := hD.1 _ _ _ _ hg hlast (by show base + (q - base) = q; omega)
    omega
section KS
variable {p : Program} {l : Launch} {e : Env} {R : Room} {s : State} {m : MethodId} {args : Array Value} {below : List Frame} {meth : Method} {c : Code} {H : Heap} {locs : List Loc} {cells slots : Nat} {Q : State → Prop} {g : JFrame}
theorem W_sz (h : H.size ≤ s.heap.size + cells → W p l e R s m args below meth c H locs cells slots Q g) : W p l e R s m args below meth c H locs cells slots Q g := by
  intro T hT X
  refine h ?_ T hT X
  have := X.same.2.2.1
  rw [← hT]
  exact this
end KS
/-- nest mates' links and array classes -/
def k_nest : List (String × Nat × MethodName) := [("BlockedCars", 9, yX4_init), ("BlockedCars", 18, yX9_init), ("BlockedCars", 38, yX6_init), ("BlockedCars", 48, yX8_init), ("BlockedCars", 66, yX5_init), ("BlockedCars", 73, yX0_init), ("BlockedCars$Past", 17, yX3_init), ("BlockedCars$Search", 26, yX9_init)]
def k_X (s : State) : Prop := (∀ x ∈ k_nest, va_Nw (.methodLinkNest x.1 x.2.1 x.2.2 "BlockedCars") s) ∧ va_AO "BlockedCars$Position" s ∧ va_AO "BlockedCars$Past" s ∧ (Cond.arrayOver (.array .int)).before #[] s = true
theorem k_X.warm {s U : State} (hW : s.WarmedH U.vm) (h : k_X s) : k_X U := ⟨fun x hx => (h.1 x hx).warmM hW, h.2.1.moved hW.alike, h.2.2.1.moved hW.alike, Jvm.Stand.arrayOver_alikeB hW.alike h.2.2.2⟩
theorem k_X.same {s U : State} (hv : s.vm = U.vm) (h : k_X s) : k_X U := ⟨fun x hx => (h.1 x hx).same rfl hv, h.2.1.moved (by rw [hv]; exact Vm.Alike.refl _), h.2.2.1.moved (by rw [hv]; exact Vm.Alike.refl _), Jvm.Stand.arrayOver_alikeB (by rw [hv]; exact Vm.Alike.refl _) h.2.2.2⟩
