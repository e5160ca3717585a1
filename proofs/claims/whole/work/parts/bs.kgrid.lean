/-! The constructors' machine: an array of arrays -/
theorem k_look_rng {n N j : Nat} (hj : j < N) : k_look ((List.range N).map (fun j => (j, (.inr (.inr (0, n + 1 + j)) : qV)))) j = some (.inr (.inr (0, n + 1 + j))) := by
  have key : ∀ (M k : Nat), k ≤ j → j < k + M → k_look ((List.range' k M).map (fun j => (j, (.inr (.inr (0, n + 1 + j)) : qV)))) j = some (.inr (.inr (0, n + 1 + j))) := by
    intro M
    induction M with
    | zero => intro k h1 h2; omega
    | succ M ih =>
      intro k h1 h2
      rw [List.range'_succ, List.map_cons]
      show (if k = j then some (.inr (.inr (0, n + 1 + k)) : qV) else k_look _ j) = _
      by_cases e : k = j
      · rw [if_pos e, e]
      · rw [if_neg e]
        exact ih (k + 1) (by omega) (by omega)
  rw [List.range_eq_range']
  exact key N 0 (Nat.zero_le _) (by omega)
theorem arrV_cg {cA : ClassId} {N : Nat} {f g : Nat → Value} (h : ∀ j, j < N → f j = g j) : arrV cA N f = arrV cA N g := by
  unfold arrV
  rw [show (fun j : Fin N => f j.val) = (fun j : Fin N => g j.val) from funext fun j => h j.val j.isLt]
theorem k_outer (cA : ClassId) (N h0 : Nat) : ∀ i, Jvm.Free.Multi.outerC cA N h0 i = arrV cA N (fun j => if j < i then .ref (h0 + 1 + j) else .null)
  | 0 => by
    unfold Jvm.Free.Multi.outerC
    rw [arrV_new]
    exact arrV_cg (fun j _ => (if_neg (Nat.not_lt_zero _)).symm)
  | i + 1 => by
    show (Jvm.Free.Multi.outerC cA N h0 i).setSlot i (.ref (h0 + 1 + i)) = _
    rw [k_outer cA N h0 i, arrV_store]
    refine arrV_cg (fun j _ => ?_)
    unfold updV
    by_cases e : j = i
    · rw [if_pos e, if_pos (by omega), e]
    · rw [if_neg e]
      show (if j < i then Value.ref (h0 + 1 + j) else Value.null) = _
      by_cases e2 : j < i
      · rw [if_pos e2, if_pos (by omega)]
      · rw [if_neg e2, if_neg (by omega)]
section KW
variable {p : Program} {l : Launch} {e : Env} {R : Room} {s : State} {m : MethodId} {args : Array Value} {below : List Frame} {meth : Method} {c : Code} {Q : State → Prop} {D : va_G} {base n0 : Nat} {cc : ByteArray} {nL : Nat} {own : String} {d : Nat} {isC : Bool} {P : List (Nat × Nat × Nat × Nat)} {cs : List (Nat × Int32)} {mc ms : Nat}
variable {pc a b idx : Nat} {z : Int32} {ls : qLs} {st : List qV} {kh : List kC} {cells slots : Nat} {i : Instr} {len : Nat} {r : Option Nat × qLs × List qV × List kC × Nat × Nat}
theorem k_size {H : Heap} {locs : List Loc} {cid : Nat → ClassId} (hH : k_HH D base cid s kh H) (hS : va_S (k_A base) s.heap H locs) (hsz : s.heap.size = base + n0) (hn : kh.length = n0 + cells) (hz : H.size ≤ s.heap.size + cells) : H.size = base + kh.length := by
  have h1 := hS.1
  by_cases h0 : kh.length = 0
  · omega
  · have hk : kh.length - 1 < kh.length := by omega
    have hg := k_gt (D := D) (base := base) (cid := cid) (List.getElem?_eq_getElem hk)
    have h2 : base + (kh.length - 1) < H.size := (hH.1 _ _ hg).lt
    omega
theorem k_ofO {cA : ClassId} {ty : FieldType} {x : Cell} (hcl : x.cls = cA) (h : s.isArrayOf x ty) : ArrOfT s cA ty := by
  obtain ⟨h1, k, h2, comp, h3⟩ := h
  rw [hcl] at h2
  exact fun N z => ⟨(fun k h => by cases h), k, h2, comp, h3⟩
set_option maxHeartbeats 2000000 in
theorem k_s13 (Z : k_Cx p R s m args meth c D base n0 cc nL own d isC P cs mc ms) (haw : k_aw) (hd : decode cc pc = .ok (i, len)) (he : (i, len) ∈ k_exp cs (13, a, b, idx, z) pc) (hp : ∀ e ∈ k_pe (13, a, b, idx, z), e ∈ P) (h : k_step k_fd (13, a, b, idx, z) ls st kh cells slots mc ms = some r) (hk : k_N p l e R s m args below meth c Q D base n0 nL (pc + len) r) : k_At p l e R s m args below meth c Q D base n0 nL pc ls st kh cells slots := by
  obtain ⟨⟨hx, hb, hml, hown, hts⟩, ⟨hK, hX⟩, hR, hsz, hm, hP, hcs⟩ := Z
  obtain ⟨w0, -, -, -, -⟩ := haw
  have hlk : Cond.classLink own idx "[[I" ∈ q_TB := hP _ (hp _ List.mem_cons_self)
  simp only [k_step] at h
  split at h
  · rename_i y x r9
    split at h
    · rename_i hcs2
      obtain ⟨⟨hx0, hy0, hxm, hym⟩, hc1, hs1⟩ := hcs2
      cases h
      intro H locs arr cid hH hS hl hn
      cases List.mem_singleton.mp he
      refine W_sz (fun hz => ?_)
      have hsize := k_size hH hS hsz hn hz
      intro T hT X
      obtain ⟨vm₁, cA, comp, hW1, hfA, hfC, hO, hI, X1, step⟩ := X.multianewarray2F hx (own := own) (index := idx) (ty := .int) hown (hts _ hlk) hX.2.2.2 (hts _ w0) (g := F0 m pc arr ((.inl y :: .inl x :: r9 : List qV).map (q_cv (gB D base)))) rfl (by rw [hb]; exact hd) (n := x) (k := y) (rest := r9.map (q_cv (gB D base))) rfl hx0 hy0 (by omega) (by simp [componentBytes]; omega) (by omega) rfl rfl (by omega) (by omega)
      have hTs : T.heap.size = base + kh.length := by rw [hT]; exact hsize
      generalize hN : x.toNatClampNeg = N at *
      generalize hKK : y.toNatClampNeg = K at *
      obtain ⟨f1, f2, -, -⟩ := Jvm.Free.Multi.fill_facts (T.setVm vm₁) cA comp N K (defaultValue .int) N
      have fo := fun (a : Addr) (ha : a < T.heap.size) => Jvm.Free.Multi.fill_old (T.setVm vm₁) cA comp N K (defaultValue .int) (a := a) ha N
      have fi := fun (j : Nat) (hj : j < N) => Jvm.Free.Multi.fill_inner (T.setVm vm₁) cA comp N K (defaultValue .int) N j hj
      obtain ⟨o1, o2, o3⟩ := Jvm.Free.Multi.outerC_facts cA N T.heap.size N
      have os := fun (j : Nat) (hj : j < N) => Jvm.Free.Multi.outerC_slot cA N T.heap.size N j hj
      generalize hF : Jvm.Free.Multi.fill (T.setVm vm₁) cA comp N K (defaultValue .int) N = F at *
      have f1 : F.heap.size = T.heap.size + 1 + N := f1
      have f2 : F.heap[T.heap.size]? = some (Jvm.Free.Multi.outerC cA N T.heap.size N) := f2
      have fo : ∀ a, a < T.heap.size → F.heap[a]? = H[a]? := fun a ha => by rw [← hT]; exact fo a ha
      have fi : ∀ j, j < N → F.heap[T.heap.size + 1 + j]? = some (Jvm.Free.Multi.innerC comp K (defaultValue .int)) := fi
      have hout : Jvm.Free.Multi.outerC cA N T.heap.size N = arrV cA N (fun j => va_rf (k_ref base (k_look ((List.range N).map (fun j => (j, (.inr (.inr (0, kh.length + 1 + j)) : qV)))) j))) := by
        rw [k_outer]
        refine arrV_cg (fun j hj => ?_)
        rw [if_pos hj, k_look_rng hj]
        show Value.ref (T.heap.size + 1 + j) = Value.ref (base + (kh.length + 1 + j))
        rw [hTs, show base + kh.length + 1 + j = base + (kh.length + 1 + j) from by omega]
      have hinn : Jvm.Free.Multi.innerC comp K (defaultValue .int) = arrV comp K (fun _ => .int 0) := by
        unfold Jvm.Free.Multi.innerC
        rw [arrV_new]
        rfl
      let cid' : Nat → ClassId := fun k => if k = kh.length then cA else if kh.length < k then comp else cid k
      have hgk : ∀ k c9, (kh ++ ((.inr (5, N, (List.range N).map (fun j => (j, .inr (.inr (0, kh.length + 1 + j))))) : kC) :: List.replicate N (.inr (0, K, []))))[k]? = some c9 → (k < kh.length ∧ kh[k]? = some c9) ∨ (k = kh.length ∧ c9 = .inr (5, N, (List.range N).map (fun j => (j, .inr (.inr (0, kh.length + 1 + j)))))) ∨ (∃ j, j < N ∧ k = kh.length + 1 + j ∧ c9 = .inr (0, K, [])) := by
        intro k c9 hk9
        by_cases h1 : k < kh.length
        · rw [List.getElem?_append_left h1] at hk9
          exact Or.inl ⟨h1, hk9⟩
        · rw [List.getElem?_append_right (by omega)] at hk9
          by_cases h2 : k = kh.length
          · subst h2
            rw [Nat.sub_self] at hk9
            exact Or.inr (Or.inl ⟨rfl, (Option.some.inj hk9).symm⟩)
          · obtain ⟨j, hj⟩ : ∃ j, k - kh.length = j + 1 := ⟨k - kh.length - 1, by omega⟩
            rw [hj, List.getElem?_cons_succ, List.getElem?_replicate] at hk9
            split at hk9
            · rename_i hjN
              exact Or.inr (Or.inr ⟨j, hjN, by omega, (Option.some.inj hk9).symm⟩)
            · cases hk9
      have hHH : k_HH D base cid' s (kh ++ ((.inr (5, N, (List.range N).map (fun j => (j, .inr (.inr (0, kh.length + 1 + j))))) : kC) :: List.replicate N (.inr (0, K, [])))) F.heap := by
        refine ⟨fun k q hq => ?_, fun k ty n w hq => ?_⟩
        · rw [k_ws_get] at hq
          obtain ⟨c9, hc9, rfl⟩ := Option.map_eq_some_iff.mp hq
          rcases hgk k c9 hc9 with ⟨h1, h2⟩ | ⟨rfl, rfl⟩ | ⟨j, hj, rfl, rfl⟩
          · have hcd : cid' k = cid k := by
              show (if k = kh.length then cA else if kh.length < k then comp else cid k) = _
              rw [if_neg (by omega), if_neg (by omega)]
            rw [hcd]
            exact (hH.1 k _ (k_gt h2)).kept (fo _ (by show base + k < _; omega))
          · have hcd : cid' kh.length = cA := if_pos rfl
            rw [hcd]
            show F.heap[base + kh.length]? = some (vp_cell cA (N, _))
            rw [← hTs, f2, hout]
            rfl
          · have hcd : cid' (kh.length + 1 + j) = comp := by
              show (if kh.length + 1 + j = kh.length then cA else if kh.length < kh.length + 1 + j then comp else cid (kh.length + 1 + j)) = _
              rw [if_neg (by omega), if_pos (by omega)]
            rw [hcd]
            show F.heap[base + (kh.length + 1 + j)]? = some (vp_cell comp (K, _))
            rw [show base + (kh.length + 1 + j) = T.heap.size + 1 + j by omega, fi j hj, hinn]
            rfl
        · rcases hgk k _ hq with ⟨h1, h2⟩ | ⟨rfl, h2⟩ | ⟨j, hj, rfl, h2⟩
          · have hcd : cid' k = cid k := by
              show (if k = kh.length then cA else if kh.length < k then comp else cid k) = _
              rw [if_neg (by omega), if_neg (by omega)]
            rw [hcd]
            exact hH.2 k ty n w h2
          · cases h2
            have hcd : cid' kh.length = cA := if_pos rfl
            rw [hcd]
            exact ⟨k_ofO (x := Jvm.Free.Multi.outerC cA 0 0 0) rfl (hO 0 0 0).1, hfA⟩
          · cases h2
            have hcd : cid' (kh.length + 1 + j) = comp := by
              show (if kh.length + 1 + j = kh.length then cA else if kh.length < kh.length + 1 + j then comp else cid (kh.length + 1 + j)) = _
              rw [if_neg (by omega), if_pos (by omega)]
            rw [hcd]
            exact ⟨k_ofO (x := Jvm.Free.Multi.innerC comp 0 (.int 0)) rfl (hI 0 (.int 0)).1, hfC⟩
      have hS1 : va_S (k_A base) s.heap F.heap locs := ⟨by have := hS.1; omega, fun q h1 h2 => by rw [fo q (by have := hS.1; omega)]; exact hS.2.1 q h1 h2, hS.2.2⟩
      have X1' : Stand p l e R s m args below meth c F locs (cells + (1 + N)) (slots + (N + N * K)) := by
        rw [← Nat.add_assoc, ← Nat.add_assoc]
        exact X1
      obtain ⟨t2, a1, b1⟩ := hk F.heap locs arr cid' hHH hS1 hl (by show (kh ++ _).length = n0 + (cells + (1 + N)); rw [List.length_append, List.length_cons, List.length_replicate]; omega) F rfl X1'
      refine ⟨t2, step t2 ?_, b1⟩
      rw [hTs]
      exact a1
    · cases h
  · cases h
end KW
