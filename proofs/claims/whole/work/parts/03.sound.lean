theorem q_mt1 {w : Cond} (h : w ∈ tables_1_1) : w ∈ lw_tbl := List.mem_append_right _ (List.mem_append_left _ h)
theorem q_mt2 {w : Cond} (h : w ∈ tables_1_2) : w ∈ lw_tbl := List.mem_append_right _ (List.mem_append_right _ (List.mem_append_left _ h))
theorem q_mt3 {w : Cond} (h : w ∈ tables_1_3) : w ∈ lw_tbl := List.mem_append_right _ (List.mem_append_right _ (List.mem_append_right _ (List.mem_append_left _ h)))
theorem q_mt4 {w : Cond} (h : w ∈ tables_1_4) : w ∈ lw_tbl := List.mem_append_right _ (List.mem_append_right _ (List.mem_append_right _ (List.mem_append_right _ (List.mem_append_left _ h))))
theorem q_mt5 {w : Cond} (h : w ∈ tables_1_5) : w ∈ lw_tbl := List.mem_append_right _ (List.mem_append_right _ (List.mem_append_right _ (List.mem_append_right _ (List.mem_append_right _ (List.mem_append_left _ h)))))
theorem q_mt6 {w : Cond} (h : w ∈ tables_1_6) : w ∈ lw_tbl := List.mem_append_right _ (List.mem_append_right _ (List.mem_append_right _ (List.mem_append_right _ (List.mem_append_right _ (List.mem_append_right _ (List.mem_append_left _ h))))))
theorem q_mt7 {w : Cond} (h : w ∈ tables_1_7) : w ∈ lw_tbl := List.mem_append_right _ (List.mem_append_right _ (List.mem_append_right _ (List.mem_append_right _ (List.mem_append_right _ (List.mem_append_right _ (List.mem_append_right _ (List.mem_append_left _ h)))))))
theorem q_mt8 {w : Cond} (h : w ∈ tables_1_8) : w ∈ lw_tbl := List.mem_append_right _ (List.mem_append_right _ (List.mem_append_right _ (List.mem_append_right _ (List.mem_append_right _ (List.mem_append_right _ (List.mem_append_right _ (List.mem_append_right _ (h))))))))
theorem q_mw : Cond.static Lib.Math.min.name ∈ q_TB ∧ Cond.static Lib.Math.max.name ∈ q_TB ∧ Cond.initialized "java/lang/Math" ∈ q_TB := ⟨q_TB_in (q_mt3 (List.mem_of_getElem? (i := 10) rfl)) rfl, q_TB_in (q_mt3 (List.mem_of_getElem? (i := 118) rfl)) rfl, q_TB_in (q_mt1 (List.mem_of_getElem? (i := 16) rfl)) rfl⟩
theorem q_mc : Cond.code Lib.Math.min.name Lib.Math.min.code 2 (some .int) ∈ q_TB ∧ Cond.code Lib.Math.max.name Lib.Math.max.code 2 (some .int) ∈ q_TB := ⟨q_TB_in (q_mt3 (List.mem_of_getElem? (i := 11) rfl)) rfl, q_TB_in (q_mt3 (List.mem_of_getElem? (i := 119) rfl)) rfl⟩
theorem q_ac : Cond.native arraycopyName ∈ q_TB ∧ Cond.static arraycopyName ∈ q_TB ∧ Cond.initialized "java/lang/System" ∈ q_TB := ⟨q_TB_in (q_mt2 (List.mem_of_getElem? (i := 151) rfl)) rfl, q_TB_in (q_mt2 (List.mem_of_getElem? (i := 150) rfl)) rfl, q_TB_in (q_mt1 (List.mem_of_getElem? (i := 22) rfl)) rfl⟩
section QT
variable {mt : Nat → Option qM} {p : Program} {l : Launch} {e : Env} {R : Room} {s : State} {m : MethodId} {args : Array Value} {below : List Frame} {meth : Method} {c : Code} {Q : State → Prop} {G : qG} {cc : ByteArray} {nL : Nat} {own : String} {d : Nat}
variable {pc : Nat} {ls : qLs} {st : List qV} {S : qSt}
theorem q_okT {v : qV} {st : List qV} (hv : q_ok v) (h : q_oks st) : q_oks (v :: st) := fun w hw => (List.mem_cons.mp hw).elim (fun e => e ▸ hv) (h w)
theorem q_okD {v : qV} {st : List qV} (h : q_oks (v :: st)) : q_oks st := fun w hw => h w (List.mem_cons_of_mem _ hw)
theorem q_okH {v : qV} {st : List qV} (h : q_oks (v :: st)) : q_ok v := h v List.mem_cons_self
/-- reading a field -/
theorem q_read (X : q_Cx mt p l R s m args c G cc nL own d) {H : Heap} {locs : List Loc} {arr : Array Slot} {K : qK} (hK : q_kok mt own K) (hH : q_H G S H) {f i j idx : Nat} {k : Nat × Nat × Nat × Nat} (hi : i < q_cnt f) (hk : q_fk f j = some k)
    (hmem : (idx, 0, q_ci f, j) ∈ K.1) (hd : decode cc pc = .ok (.getfield idx, 3)) {rest : List Value} (kk : W p l e R s m args below meth c H locs 0 0 Q (F0 m (pc + 3) arr (q_fv G S f i j k :: rest))) :
    W p l e R s m args below meth c H locs 0 0 Q (F0 m pc arr (.ref (G.1 f i) :: rest)) := by
  obtain ⟨hx, hb, hml, hown, hts, hW, hR, hfo, hE⟩ := X
  have hfo := hfo f
  unfold q_fo q_fk q_ci at *
  cases hfam : q_fam f with
  | inr q => simp [hfam] at hk
  | inl q =>
    obtain ⟨C, T, N, ty, h1, h2, h3, h4, h5, h6, h7⟩ := hfo q hfam
    simp only [hfam] at hk hmem
    have hjl : j < q.2.length := (List.getElem?_eq_some_iff.mp hk).1
    have hP : va_P G.2.2 vwCl [(G.1 f i, .inr (q.1, q_fvs G S f i 0 q.2))] H := fun k9 q9 h9 => by
      have : k9 = 0 := by have := (List.getElem?_eq_some_iff.mp h9).1; simp at this; exact this
      subst this
      cases h9
      have := hH.1 f i hi
      unfold q_cel at this
      rw [hfam] at this
      exact this
    have hl := hK.1 _ hmem
    unfold q_cpok at hl
    have hl := hl C T N h1
    exact va_get (D := G.2.2) (ci := q.1) (ref := C) (C := C) (T := T) (N := N) (Ts := q_TB) hx hb hts h3 hown hW.1 hP 0 rfl h1 j (h2 ▸ hjl) (hts _ hl) (fun x hx => by rw [h6 j (h2 ▸ hjl)] at hx; exact hx) (by rw [q_fvs_get, hk, Nat.zero_add]; rfl) hd kk
/-- writing a field -/
theorem q_write (X : q_Cx mt p l R s m args c G cc nL own d) {H : Heap} {locs : List Loc} {arr : Array Slot} {K : qK} (hK : q_kok mt own K) (hH : q_H G S H) (hS : va_S (q_A G) s.heap H locs) {f i j idx : Nat} {k : Nat × Nat × Nat × Nat} (hi : i < q_cnt f) (hk : q_fk f j = some k)
    (hmem : (idx, 0, q_ci f, j) ∈ K.1) (hd : decode cc pc = .ok (.putfield idx, 3)) {rest : List Value} {v : Value} {S' : qSt} (hv : q_fv G S' f i j k = v)
    (hne : ∀ g i' j' k', ¬ (g = f ∧ i' = i ∧ j' = j) → q_fk g j' = some k' → q_fv G S' g i' j' k' = q_fv G S g i' j' k') (hI : ∀ g i', ¬ (g = f ∧ i' = i) → q_I S' g i' = q_I S g i') (hL : ∀ g i', ¬ (g = f ∧ i' = i) → q_L S' g i' = q_L S g i')
    (hM : ∀ g j k h x, j < q_cnt g → q_fk g k = some (4, h, x) → q_M S' g j k < q_cnt h)
    (hty : ∀ ty, (k.1 = 0 → ty = .int) ∧ (k.1 = 1 → ty = .long) ∧ (k.1 = 2 → ty = .boolean) ∧ (k.1 = 4 → ∃ n, ty = .object n) → narrow ty v = v ∧ fits ty v = true) (hk3 : k.1 ≠ 3)
    (kk : ∀ H' locs', q_H G S' H' → va_S (q_A G) s.heap H' locs' → W p l e R s m args below meth c H' locs' 0 0 Q (F0 m (pc + 3) arr rest)) :
    W p l e R s m args below meth c H locs 0 0 Q (F0 m pc arr (v :: .ref (G.1 f i) :: rest)) := by
  obtain ⟨hx, hb, hml, hown, hts, hW, hR, hfo, hE⟩ := X
  have hfo := hfo f
  have hk0 := hk
  unfold q_fo q_fk q_ci at *
  cases hfam : q_fam f with
  | inr q => simp [hfam] at hk
  | inl q =>
    obtain ⟨C, T, N, ty, h1, h2, h3, h4, h5, h6, h7⟩ := hfo q hfam
    simp only [hfam] at hk hmem
    have hjl : j < q.2.length := (List.getElem?_eq_some_iff.mp hk).1
    have hjN : j < N := h2 ▸ hjl
    obtain ⟨t0, t1, t2, t4, t5⟩ := h7 j k hk
    have hfin : (T j).2.2.2 = false := by
      have : k.1 = 0 ∨ k.1 = 1 ∨ k.1 = 2 ∨ k.1 = 4 := by omega
      rcases this with h | h | h | h
      · exact (t0 h).2
      · exact (t1 h).2
      · exact (t2 h).2
      · exact (t4 h).2
    have hnf := hty (ty j) ⟨fun h => (t0 h).1, fun h => (t1 h).1, fun h => (t2 h).1, fun h => (t4 h).1⟩
    have hat := hH.1 f i hi
    unfold q_cel at hat
    rw [hfam] at hat
    obtain ⟨r, g1, cell, q1, q2, q3, q4⟩ := hat
    have hr : r = (C, T, N) := Option.some.inj (g1.symm.trans h1)
    subst hr
    have hl := hK.1 _ hmem
    unfold q_cpok at hl
    have hlink := hts _ (hl C T N h1)
    have hap := va_apart (own := own) (D := G.2.2) (tys := []) (s := s) (args := args) hts h3 ty h4 h5 hW.1 h1
    obtain ⟨hSl, hfc, kC, hkC, hkind⟩ := hW.1.1 q.1 _ h1
    obtain ⟨cf, kf, fi, fd, hif, hsl⟩ := hSl j hjN
    have hlay := hts _ (h3 _ (u_in_lay hjN))
    unfold u_lay at hlay
    rw [if_neg (by rw [hfin]; decide)] at hlay
    have hst := (u_facts hfc hkC (u_lays hts h3 hjN) hif).1
    have h6' := u_store hfc hkC hkind hlay hif (h4 j hjN) hnf.1 hnf.2
    have hif' := hif
    rw [h6 j hjN] at hif'
    refine W.putK hx hb (f := fd) ⟨hown, hlink, ⟨_, _, _, hif'⟩, hst⟩ (by rw [q2]; exact h6') q1 q3 (by rw [hsl]; exact k2_hasslot (q4 j hjN)) rfl rfl hd fun H' e1 e2 e3 => ?_
    rw [hsl] at e1 ⊢
    refine kk H' _ (q_cel_set hW hH hi ?_ ?_ e3 hM) (hS.put e2 e3 ⟨f, i, hi, rfl⟩)
    · unfold q_cel
      rw [hfam]
      refine ⟨_, h1, t_OB.to (V := updV (vp_V (q_fvs G S f i 0 q.2)) j v) ⟨_, e1, q2, q3, t_set q4 hap hjN v⟩ (fun j' hj' => ?_)⟩
      unfold vp_V
      by_cases ej : j' = j
      · subst ej
        simp only [updV, if_pos]
        rw [List.getD_eq_getElem?_getD, q_fvs_get, hk, Nat.zero_add]
        exact hv.symm
      · simp only [updV, if_neg ej]
        rw [List.getD_eq_getElem?_getD, List.getD_eq_getElem?_getD, q_fvs_get, q_fvs_get]
        have hj'l : j' < q.2.length := by rw [h2]; exact hj'
        rw [List.getElem?_eq_getElem hj'l]
        simp only [Option.map_some, Option.getD_some, Nat.zero_add]
        refine (hne f i j' _ (fun h => ej h.2.2) ?_).symm
        rw [hfam]
        exact List.getElem?_eq_getElem hj'l
    · intro g i' hgi
      unfold q_cel
      cases hg : q_fam g with
      | inl y =>
        have : q_fvs G S' g i' 0 y.2 = q_fvs G S g i' 0 y.2 := by
          apply List.ext_getElem?
          intro n
          rw [q_fvs_get, q_fvs_get]
          cases hy : y.2[n]? with
          | none => rfl
          | some k' =>
            simp only [Option.map_some, Nat.zero_add]
            exact congrArg some (hne g i' n k' (fun h => hgi ⟨h.1, h.2.1⟩) (by rw [hg]; exact hy))
        simp only [this]
      | inr y =>
        obtain ⟨a, n, b⟩ := y
        have a1 := hI g i' hgi
        have a2 := hL g i' hgi
        rcases a with _ | _ | _ | a <;> simp only [a1, a2]
end QT
section QT2
variable {mt : Nat → Option qM} {p : Program} {l : Launch} {e : Env} {R : Room} {s : State} {m : MethodId} {args : Array Value} {below : List Frame} {meth : Method} {c : Code} {Q : State → Prop} {G : qG} {cc : ByteArray} {nL : Nat} {own : String} {d : Nat}
variable {pc : Nat} {ls : qLs} {st : List qV} {S : qSt} {H : Heap} {locs : List Loc} {arr : Array Slot} {rest : List Value}
theorem q_one {a : Nat} {x : va_E} (h : va_at G.2.2 vwCl (a, x) H) : va_P G.2.2 vwCl [(a, x)] H := fun k9 q9 h9 => by
  have : k9 = 0 := by have := (List.getElem?_eq_some_iff.mp h9).1; simp at this; exact this
  subst this
  cases h9
  exact h
theorem q_fam_of {f k : Nat} (h : q_ak f = k) (hk : k < 9) : ∃ n g c0 c1, q_fam f = .inr (k, n, g, c0, c1) ∧ q_al f = n := by
  unfold q_ak at h
  unfold q_al
  cases hf : q_fam f with
  | inl q => rw [hf] at h; dsimp only at h; omega
  | inr q =>
    obtain ⟨k', n, g, c0, c1⟩ := q
    rw [hf] at h
    dsimp only at h
    subst h
    exact ⟨n, g, c0, c1, rfl, rfl⟩
theorem q_cel0 {f i : Nat} (h : q_ak f = 0) : q_cel G S f i = .inl (G.2.1 f i, q_al f, .inl (q_I S f i)) := by
  obtain ⟨n, g, c0, c1, h1, h2⟩ := q_fam_of h (by decide)
  unfold q_cel
  rw [h1, h2]
  rfl
theorem q_cel1 {f i : Nat} (h : q_ak f = 1) : q_cel G S f i = .inl (G.2.1 f i, q_al f, .inl (q_I S f i)) := by
  obtain ⟨n, g, c0, c1, h1, h2⟩ := q_fam_of h (by decide)
  unfold q_cel
  rw [h1, h2]
  rfl
theorem q_cel2 {f i : Nat} (h : q_ak f = 2) : q_cel G S f i = .inl (G.2.1 f i, q_al f, .inr (.inl (q_L S f i))) := by
  obtain ⟨n, g, c0, c1, h1, h2⟩ := q_fam_of h (by decide)
  unfold q_cel
  rw [h1, h2]
  rfl
theorem q_arr0 {f i : Nat} (hH : q_H G S H) (hi : i < q_cnt f) (h : q_ak f = 0) : va_P G.2.2 vwCl [(G.1 f i, .inl (G.2.1 f i, q_al f, .inl (q_I S f i)))] H := q_one (q_cel0 (G := G) (S := S) h ▸ hH.1 f i hi)
theorem q_arr1 {f i : Nat} (hH : q_H G S H) (hi : i < q_cnt f) (h : q_ak f = 1) : va_P G.2.2 vwCl [(G.1 f i, .inl (G.2.1 f i, q_al f, .inl (q_I S f i)))] H := q_one (q_cel1 (G := G) (S := S) h ▸ hH.1 f i hi)
theorem q_arr2 {f i : Nat} (hH : q_H G S H) (hi : i < q_cnt f) (h : q_ak f = 2) : va_P G.2.2 vwCl [(G.1 f i, .inl (G.2.1 f i, q_al f, .inr (.inl (q_L S f i))))] H := q_one (q_cel2 (G := G) (S := S) h ▸ hH.1 f i hi)
theorem q_big {f : Nat} (hf : 81 ≤ f) : q_fam f = .inr (9, 0, 0, 0, 0) := by
  obtain ⟨n, rfl⟩ : ∃ n, f = n + 81 := ⟨f - 81, by omega⟩
  rfl
theorem q_all {P : Nat → Prop} (h : ∀ f, f < 81 → P f) (h2 : ∀ f, 81 ≤ f → P f) (f : Nat) : P f := (Nat.lt_or_ge f 81).elim (h f) (h2 f)
theorem q_fk_lt {f j : Nat} {k : Nat × Nat × Nat × Nat} (h : q_fk f j = some k) : f < 97 := Nat.lt_of_not_le fun q => by
  unfold q_fk at h
  rw [q_big (show 81 ≤ f by omega)] at h
  cases h
theorem q_ak_lt {f : Nat} (h : q_ak f < 4) : f < 97 := Nat.lt_of_not_le fun q => by
  rw [q_ak, q_big (show 81 ≤ f by omega)] at h
  exact absurd h (by decide)
theorem q_okA {f i : Nat} (h : q_ok (.inr (.inr (f, i)))) (hf : f < 97) : i < q_cnt f := h.elim id (fun q => absurd (show 97 ≤ f from q.1) (by omega))
theorem q_ok99 {f i : Nat} (h : q_ok (.inr (.inr (f, i)))) (hf : 97 ≤ f) : i < 20 := h.elim (fun q => by
  obtain ⟨n, rfl⟩ : ∃ n, f = n + 81 := ⟨f - 81, by omega⟩
  exact absurd (show i < 0 from q) (Nat.not_lt_zero i)) (fun q => q.2)
theorem q_sref_lt : ∀ x ∈ q_sref, x.2.2 < 20 := by decide
theorem q_ck44 {mt : Nat → Option qM} {nL a n r9 pc' f : Nat} {ret : Option FieldType} {z w1 : Int32} {zl : Int64} (hc : q_ckx mt nL ret (44, pc', a, n, r9, z, zl, [(w1, f)]) = true) : f < 97 := Nat.lt_of_not_le fun q => by
  have hc : (match vwCl[q_ci f]?, mt a with
    | some r, some q => decide (r.1 = q.1.cls)
    | _, _ => false) = true := hc
  unfold q_ci at hc
  rw [q_big (show 81 ≤ f by omega)] at hc
  have e : vwCl[99]? = none := rfl
  simp only [e] at hc
  cases hc
theorem q_aty0 : ∀ {f : Nat}, q_ak f = 0 → q_aty f = .int := by
  refine fun {f} => q_all (P := fun f => q_ak f = 0 → q_aty f = .int) (by decide +kernel) (fun f hf h => ?_) f
  rw [q_ak, q_big hf] at h
  cases h
theorem q_aty1 : ∀ {f : Nat}, q_ak f = 1 → q_aty f = .byte := by
  refine fun {f} => q_all (P := fun f => q_ak f = 1 → q_aty f = .byte) (by decide +kernel) (fun f hf h => ?_) f
  rw [q_ak, q_big hf] at h
  cases h
theorem q_aty2 : ∀ {f : Nat}, q_ak f = 2 → q_aty f = .long := by
  refine fun {f} => q_all (P := fun f => q_ak f = 2 → q_aty f = .long) (by decide +kernel) (fun f hf h => ?_) f
  rw [q_ak, q_big hf] at h
  cases h
def q_isR (t : FieldType) : Bool := match t with
  | .object _ => true
  | .array _ => true
  | _ => false
theorem q_atyR : ∀ f : Nat, q_ak f = 3 → q_isR (q_aty f) = true := by
  refine fun f => q_all (P := fun f => q_ak f = 3 → q_isR (q_aty f) = true) (by decide +kernel) (fun f hf h => ?_) f
  rw [q_ak, q_big hf] at h
  cases h
def q_fin (f : Nat) : Bool := match q_fam f with
  | .inr (3, n, g, c0, c1) => (List.range (q_cnt f)).all (fun i => decide (c0 + c1 * i + n ≤ q_cnt g))
  | _ => true
theorem q_far (f i n g c0 c1 j : Nat) (hf : q_fam f = .inr (3, n, g, c0, c1)) (hi : i < q_cnt f) (hj : j < n) : c0 + c1 * i + j < q_cnt g := by
  have h : q_fin f = true := by
    refine q_all (P := fun f => q_fin f = true) (by decide +kernel) (fun f hf => ?_) f
    rw [q_fin, q_big hf]
    rfl
  unfold q_fin at h
  rw [hf] at h
  have h := of_decide_eq_true (List.all_eq_true.mp h i (List.mem_range.mpr hi))
  omega
theorem q_arrK {f i : Nat} {ty : FieldType} (hW : q_W G s) (hi : i < q_cnt f) (hk : q_ak f < 4) (ht : q_aty f = ty) : va_K G.2.2 vwCl [(G.2.1 f i, ty)] s := by
  refine ⟨hW.1.1, fun k q h => ?_⟩
  have : k = 0 := by have := (List.getElem?_eq_some_iff.mp h).1; simp at this; exact this
  subst this
  cases h
  exact ht ▸ hW.2.1 f i hi hk
theorem q_aald (hx : p.tables.exec = Jvm.exec) (hb : c.code = cc) {f i0 n : Nat} {F : Nat → Option Nat} (hP : va_P G.2.2 vwCl [(G.1 f i0, .inl (G.2.1 f i0, n, .inr (.inr (.inr (.inr F)))))] H) (hW : q_W G s) (hi : i0 < q_cnt f) (hk : q_ak f < 4) (hR : q_isR (q_aty f) = true) {y : Int32} (hin : vp_in y n) (hd : decode cc pc = .ok (.aaload, 1))
    (kk : W p l e R s m args below meth c H locs 0 0 Q (F0 m (pc + 1) arr (va_rf (F y.toNatClampNeg) :: rest))) : W p l e R s m args below meth c H locs 0 0 Q (F0 m pc arr (.int y :: .ref (G.1 f i0) :: rest)) := by
  have hlt : y.toNatClampNeg < n := Nat.not_le.mp fun q => hin (Or.inr q)
  have hA := (hW.2.1 f i0 hi hk).1
  cases ht : q_aty f with
  | object C =>
    rw [ht] at hA
    exact W.aald (v := va_rf (F y.toNatClampNeg)) (ty := .object C) hx hb (hP 0 _ rfl) (hA n (fun j => va_rf (F j))) rfl (fun q => by cases q) (by show ¬ (y < 0 ∨ (arrV _ _ _).slots.size ≤ _); rw [arrV_size]; exact hin) (by show (arrV _ _ _).slots[_]? = _; rw [arrV_read _ _ hlt]) rfl rfl hd kk
  | array C =>
    rw [ht] at hA
    exact W.aald (v := va_rf (F y.toNatClampNeg)) (ty := .array C) hx hb (hP 0 _ rfl) (hA n (fun j => va_rf (F j))) rfl (fun q => by cases q) (by show ¬ (y < 0 ∨ (arrV _ _ _).slots.size ≤ _); rw [arrV_size]; exact hin) (by show (arrV _ _ _).slots[_]? = _; rw [arrV_read _ _ hlt]) rfl rfl hd kk
  | _ => rw [ht] at hR; cases hR
theorem q_alen (hx : p.tables.exec = Jvm.exec) (hb : c.code = cc) (hW : q_W G s) (hH : q_H G S H) {f i0 : Nat} (hi : i0 < q_cnt f) (hk : q_ak f < 4) (hd : decode cc pc = .ok (.arraylength, 1))
    (kk : W p l e R s m args below meth c H locs 0 0 Q (F0 m (pc + 1) arr (.int (Int32.ofNat (q_al f)) :: rest))) : W p l e R s m args below meth c H locs 0 0 Q (F0 m pc arr (.ref (G.1 f i0) :: rest)) := by
  have hKa := q_arrK hW hi hk rfl
  have h0 := hH.1 f i0 hi
  obtain ⟨n, g, c0, c1, h1, h2⟩ := q_fam_of (f := f) rfl (by omega)
  have hP : ∃ x : vp_A, x.1 = q_al f ∧ va_P G.2.2 vwCl [(G.1 f i0, .inl (G.2.1 f i0, x))] H := by
    unfold q_cel at h0
    rw [h1] at h0
    rw [h2]
    generalize q_ak f = k at *
    match k, h0 with
    | 0, h0 => exact ⟨_, rfl, q_one h0⟩
    | 1, h0 => exact ⟨_, rfl, q_one h0⟩
    | 2, h0 => exact ⟨_, rfl, q_one h0⟩
    | k + 3, h0 => exact ⟨_, rfl, q_one h0⟩
  obtain ⟨x, hx1, hP⟩ := hP
  exact va_alen (D := G.2.2) (x := x) (tys := [(G.2.1 f i0, q_aty f)]) hx hb hKa hP 0 0 rfl rfl (by rw [hx1]) hd kk
theorem q_oth {S' : qSt} {f i : Nat} (hk : q_ak f < 4) (hI : ∀ g j, ¬ (g = f ∧ j = i) → q_I S' g j = q_I S g j) (hL : ∀ g j, ¬ (g = f ∧ j = i) → q_L S' g j = q_L S g j) (hM : q_M S' = q_M S) : ∀ g j, ¬ (g = f ∧ j = i) → q_cel G S' g j = q_cel G S g j := by
  intro g j hne
  have a1 := hI g j hne
  have a2 := hL g j hne
  unfold q_cel
  cases hg : q_fam g with
  | inl y =>
    have : q_fvs G S' g j 0 y.2 = q_fvs G S g j 0 y.2 := by
      apply List.ext_getElem?
      intro n
      rw [q_fvs_get, q_fvs_get]
      cases hy : y.2[n]? with
      | none => rfl
      | some k' =>
        simp only [Option.map_some, Nat.zero_add]
        unfold q_fv
        rw [a1, a2, hM]
    simp only [this]
  | inr y =>
    obtain ⟨a, n, b⟩ := y
    rcases a with _ | _ | _ | a <;> simp only [a1, a2]
theorem q_updI {f i j : Nat} {v : Int32} : q_I (q_wI S f i j v) f i = upd (q_I S f i) j v := by
  funext k
  rw [q_I_wI]
  simp [upd]
theorem q_updL {f i j : Nat} {v : Int64} : q_L (q_wL S f i j v) f i = vp_updL (q_L S f i) j v := by
  funext k
  rw [q_L_wL]
  simp [vp_updL]
theorem q_othI {f i j : Nat} {v : Int32} : ∀ g k, ¬ (g = f ∧ k = i) → q_I (q_wI S f i j v) g k = q_I S g k := fun g k h => by
  funext n
  rw [q_I_wI, if_neg (fun q => h ⟨q.1, q.2.1⟩)]
theorem q_othL {f i j : Nat} {v : Int64} : ∀ g k, ¬ (g = f ∧ k = i) → q_L (q_wL S f i j v) g k = q_L S g k := fun g k h => by
  funext n
  rw [q_L_wL, if_neg (fun q => h ⟨q.1, q.2.1⟩)]
theorem q_store0 (hx : p.tables.exec = Jvm.exec) (hb : c.code = cc) (hW : q_W G s) (hH : q_H G S H) (hS : va_S (q_A G) s.heap H locs) {f i0 : Nat} (hi : i0 < q_cnt f) (hk : q_ak f = 0) {y v : Int32} (hin : vp_in y (q_al f)) (hd : decode cc pc = .ok (.iastore, 1))
    (kk : ∀ H' locs', q_H G (q_wI S f i0 y.toNatClampNeg v) H' → va_S (q_A G) s.heap H' locs' → W p l e R s m args below meth c H' locs' 0 0 Q (F0 m (pc + 1) arr rest)) : W p l e R s m args below meth c H locs 0 0 Q (F0 m pc arr (.int v :: .int y :: .ref (G.1 f i0) :: rest)) := by
  have hA := (hW.2.1 f i0 hi (by omega)).1
  rw [q_aty0 hk] at hA
  have h0 := hH.1 f i0 hi
  rw [q_cel0 hk] at h0
  refine W.iast hx hb h0 (hA (q_al f) (fun j => .int (q_I S f i0 j))) (fun q => by cases q) (by show ¬ (y < 0 ∨ (arrV _ _ _).slots.size ≤ _); rw [arrV_size]; exact hin) rfl rfl hd fun H1 e z oq => ?_
  refine kk H1 _ (q_cel_set hW hH hi ?_ (q_oth (by omega) q_othI (fun _ _ _ => rfl) rfl) oq (fun g j k h x hj hk => hH.2 g j k h x hj hk)) (hS.put z oq ⟨f, i0, hi, rfl⟩)
  rw [q_cel0 hk, q_updI]
  show H1[G.1 f i0]? = some (vp_cell _ _)
  rw [e]
  rw [vp_cell_i, vp_cell_i, arrV_store]
  congr 2
  funext q
  by_cases hq : q = y.toNatClampNeg
  · subst hq
    simp [updV, upd]
  · simp [updV, upd, hq]
theorem q_store1 (hx : p.tables.exec = Jvm.exec) (hb : c.code = cc) (hW : q_W G s) (hH : q_H G S H) (hS : va_S (q_A G) s.heap H locs) {f i0 : Nat} (hi : i0 < q_cnt f) (hk : q_ak f = 1) {y v : Int32} (hin : vp_in y (q_al f)) (hd : decode cc pc = .ok (.bastore, 1))
    (kk : ∀ H' locs', q_H G (q_wI S f i0 y.toNatClampNeg v.toInt8.toInt32) H' → va_S (q_A G) s.heap H' locs' → W p l e R s m args below meth c H' locs' 0 0 Q (F0 m (pc + 1) arr rest)) : W p l e R s m args below meth c H locs 0 0 Q (F0 m pc arr (.int v :: .int y :: .ref (G.1 f i0) :: rest)) := by
  have hA := (hW.2.1 f i0 hi (by omega)).1
  rw [q_aty1 hk] at hA
  have h0 := hH.1 f i0 hi
  rw [q_cel1 hk] at h0
  refine W.bast hx hb h0 (hA (q_al f) (fun j => .int (q_I S f i0 j))) (fun q => by cases q) (by show ¬ (y < 0 ∨ (arrV _ _ _).slots.size ≤ _); rw [arrV_size]; exact hin) rfl rfl hd fun H1 e z oq => ?_
  refine kk H1 _ (q_cel_set hW hH hi ?_ (q_oth (by omega) q_othI (fun _ _ _ => rfl) rfl) oq (fun g j k h x hj hk => hH.2 g j k h x hj hk)) (hS.put z oq ⟨f, i0, hi, rfl⟩)
  rw [q_cel1 hk, q_updI]
  show H1[G.1 f i0]? = some (vp_cell _ _)
  rw [e]
  rw [vp_cell_i, vp_cell_i, arrV_store]
  congr 2
  funext q
  by_cases hq : q = y.toNatClampNeg
  · subst hq
    simp [updV, upd, narrow]
  · simp [updV, upd, hq]
theorem q_store2 (hx : p.tables.exec = Jvm.exec) (hb : c.code = cc) (hW : q_W G s) (hH : q_H G S H) (hS : va_S (q_A G) s.heap H locs) {f i0 : Nat} (hi : i0 < q_cnt f) (hk : q_ak f = 2) {y : Int32} {v : Int64} (hin : vp_in y (q_al f)) (hd : decode cc pc = .ok (.lastore, 1))
    (kk : ∀ H' locs', q_H G (q_wL S f i0 y.toNatClampNeg v) H' → va_S (q_A G) s.heap H' locs' → W p l e R s m args below meth c H' locs' 0 0 Q (F0 m (pc + 1) arr rest)) : W p l e R s m args below meth c H locs 0 0 Q (F0 m pc arr (.long v :: .int y :: .ref (G.1 f i0) :: rest)) := by
  have hA := (hW.2.1 f i0 hi (by omega)).1
  rw [q_aty2 hk] at hA
  have h0 := hH.1 f i0 hi
  rw [q_cel2 hk] at h0
  refine W.last hx hb h0 (hA (q_al f) (fun j => .long (q_L S f i0 j))) (fun q => by cases q) (by show ¬ (y < 0 ∨ (arrV _ _ _).slots.size ≤ _); rw [arrV_size]; exact hin) rfl rfl hd fun H1 e z oq => ?_
  refine kk H1 _ (q_cel_set hW hH hi ?_ (q_oth (by omega) (fun _ _ _ => rfl) q_othL rfl) oq (fun g j k h x hj hk => hH.2 g j k h x hj hk)) (hS.put z oq ⟨f, i0, hi, rfl⟩)
  rw [q_cel2 hk, q_updL]
  show H1[G.1 f i0]? = some (vp_cell _ _)
  rw [e]
  rw [vp_cell_l, vp_cell_l, arrV_store]
  congr 2
  funext q
  by_cases hq : q = y.toNatClampNeg
  · subst hq
    simp [updV, vp_updL]
  · simp [updV, vp_updL, hq]
theorem q_w_map {st : List qV} : ((st.map (q_cv G)).map fun v => v.category).sum = q_w st := by
  induction st with
  | nil => rfl
  | cons v r ih =>
    rcases v with x | x | x <;> simp only [List.map_cons, List.sum_cons, ih] <;> rfl
end QT2
section QT3
variable {mt : Nat → Option qM} {p : Program} {l : Launch} {e : Env} {R : Room} {s : State} {m : MethodId} {args : Array Value} {below : List Frame} {meth : Method} {c : Code} {Q : State → Prop} {G : qG} {cc : ByteArray} {nL : Nat} {own : String} {d : Nat}
variable {pc : Nat} {ls : qLs} {st : List qV} {S : qSt} {H : Heap} {locs : List Loc} {arr : Array Slot} {rest : List Value}
theorem q_call_elim {k rt : Nat} {as : List qV} {K : List qV → qSt → Prop} (h : q_call mt l d k rt as S K) : ∃ d' post, d' < d ∧ q_Met mt l d' k rt as S post ∧ ∀ r S', q_ty rt r → post r S' → K r.toList S' := by
  unfold q_call at h
  match rt, h with
  | 0, ⟨d', post, h1, h2, h3⟩ => exact ⟨d', post, h1, h2, fun r S' hr hp => by cases (show r = none from hr); exact h3 S' hp⟩
  | 1, ⟨d', post, h1, h2, h3⟩ => exact ⟨d', post, h1, h2, fun r S' hr hp => by obtain ⟨x, rfl⟩ : ∃ x, r = some (.inl x) := hr; exact h3 x S' hp⟩
  | 2, ⟨d', post, h1, h2, h3⟩ => exact ⟨d', post, h1, h2, fun r S' hr hp => by obtain ⟨x, rfl⟩ : ∃ x, r = some (.inr (.inl x)) := hr; exact h3 x S' hp⟩
  | n + 3, ⟨d', post, h1, h2, h3⟩ => exact ⟨d', post, h1, h2, fun r S' hr hp => by obtain ⟨x, rfl, -⟩ : ∃ i, r = some (.inr (.inr (n, i))) ∧ i < q_cnt n := hr; exact h3 x S' hp⟩
theorem q_after {rt : Nat} {post : Option qV → qSt → Prop} {a : Array Value} {st0 : List Value} (hr : va_Run p l e R s m args below meth c H locs 0 0 0 0 (F0 m pc arr st0) rest (q_Qc G rt post a) (q_A G)) (hS : va_S (q_A G) s.heap H locs)
    (kk : ∀ r S' H1 locs1, q_ty rt r → post r S' → q_H G S' H1 → va_S (q_A G) s.heap H1 locs1 → W p l e R s m args below meth c H1 locs1 0 0 Q (F0 m (pc + 3) arr ((r.map (q_cv G)).toList ++ rest))) : W p l e R s m args below meth c H locs 0 0 Q (F0 m pc arr st0) := by
  intro T hT X
  obtain ⟨v, st₀, t, T', L, h0, X', hL, e1, e2, ⟨⟨r, S', hv, hty, hp, hh, hw⟩, hz, hk⟩, st⟩ := hr T hT X
  cases hv
  rw [h0] at hz hk
  obtain ⟨t2, a1, b1⟩ := kk r S' T'.heap (locs ++ L) hty hp (by rw [e1]; exact hh)
    ⟨Nat.le_trans hS.1 (by rw [e1]; exact hz), fun q h1 h2 => by rw [e1, hk q (Nat.lt_of_lt_of_le h1 hS.1) h2]; exact hS.2.1 q h1 h2, fun q hq => by
      rcases List.mem_append.mp hq with h | h
      · exact hS.2.2 q h
      · exact hL q h⟩ T' rfl X'
  exact ⟨t2, st t2 a1, b1⟩
theorem q_back {r : Option qV} {st : List qV} {H1 : Heap} {locs1 : List Loc} (h : W p l e R s m args below meth c H1 locs1 0 0 Q (F0 m pc arr ((r.toList ++ st).map (q_cv G)))) : W p l e R s m args below meth c H1 locs1 0 0 Q (F0 m pc arr ((r.map (q_cv G)).toList ++ st.map (q_cv G))) := by
  cases r <;> exact h
theorem q_callB {y : qM} {own : String} {index n d' : Nat} (hts : ∀ w ∈ q_TB, w.before args s = true) (hlt : d' < d) (hR : R.frames = d ∧ R.locals = 200 * d) (w1 : Cond.methodLink own index y.1 ∈ q_TB) (w3 : Cond.initialized y.1.cls ∈ q_TB) (w4 : Cond.code y.1 y.2.1 y.2.2.1 y.2.2.2 ∈ q_TB)
    (hd : y.1.cls ≠ "java/lang/invoke/MethodHandle" ∧ y.1.cls ≠ "java/lang/invoke/VarHandle" ∧ (parseMethodDescriptor y.1.desc).map (fun d => d.parameters.length) = some n) (h150 : y.2.2.1 ≤ 150) : CallB R s args own index y.1 y.2.1 y.2.2.1 y.2.2.2 (q_ws y) (q_rm d') 0 0 n := by
  refine ⟨rfl, rfl, ?_, ?_, ?_, List.mem_cons_self, hts _ w4, hts _ w3, ⟨hd.1, hd.2.1⟩, fun sig h => ?_, hts _ w1⟩
  · show d' + 1 ≤ R.frames
    omega
  · show 8 + (y.2.2.1 + 11) + 200 * d' ≤ R.locals
    omega
  · intro w hw a' U hWm
    have hw : w ∈ q_TB := (List.mem_cons.mp hw).elim (fun e => e ▸ w4) id
    exact word_at hWm (good_of_word (q_TB_good hw).2) (hts w hw)
  · have h2 := hd.2.2
    rw [h] at h2
    exact (Option.some.inj h2).symm
theorem q_callN {y : qM} {own : String} {index n d' : Nat} (hts : ∀ w ∈ q_TB, w.before args s = true) (hlt : d' < d) (hR : R.frames = d ∧ R.locals = 200 * d) (w1 : va_Nw (.methodLinkNest own index y.1 "BlockedCars") s) (w3 : Cond.initialized y.1.cls ∈ q_TB) (w4 : Cond.code y.1 y.2.1 y.2.2.1 y.2.2.2 ∈ q_TB)
    (hd : y.1.cls ≠ "java/lang/invoke/MethodHandle" ∧ y.1.cls ≠ "java/lang/invoke/VarHandle" ∧ (parseMethodDescriptor y.1.desc).map (fun d => d.parameters.length) = some n) (h150 : y.2.2.1 ≤ 150) : va_CN R s args own index y.1 "BlockedCars" y.2.1 y.2.2.1 y.2.2.2 (q_ws y) (q_rm d') 0 0 n := by
  refine ⟨⟨rfl, rfl, ?_, ?_, ?_, List.mem_cons_self⟩, hts _ w4, hts _ w3, ⟨hd.1, hd.2.1⟩, fun sig h => ?_, va_Nw.use rfl w1⟩
  · show d' + 1 ≤ R.frames
    omega
  · show 8 + (y.2.2.1 + 11) + 200 * d' ≤ R.locals
    omega
  · intro w hw a' U hWm
    have hw : w ∈ q_TB := (List.mem_cons.mp hw).elim (fun e => e ▸ w4) id
    exact word_at hWm (good_of_word (q_TB_good hw).2) (hts w hw)
  · have h2 := hd.2.2
    rw [h] at h2
    exact (Option.some.inj h2).symm
theorem q_oks_args {st : List qV} {n : Nat} (h : q_oks st) : q_oks (st.take n).reverse := fun v hv => h v (List.mem_of_mem_take (List.mem_reverse.mp hv))
theorem q_oks_drop {st : List qV} {n : Nat} (h : q_oks st) : q_oks (st.drop n) := fun v hv => h v (List.mem_of_mem_drop hv)
theorem q_oks_res {rt : Nat} {r : Option qV} {st : List qV} (hr : q_ty rt r) (h : q_oks st) : q_oks (r.toList ++ st) := by
  intro v hv
  rcases List.mem_append.mp hv with h1 | h1
  · match rt, hr with
    | 0, hr => cases (show r = none from hr); cases h1
    | 1, hr => obtain ⟨x, rfl⟩ : ∃ x, r = some (.inl x) := hr; cases List.mem_singleton.mp h1; trivial
    | 2, hr => obtain ⟨x, rfl⟩ : ∃ x, r = some (.inr (.inl x)) := hr; cases List.mem_singleton.mp h1; trivial
    | n + 3, hr => obtain ⟨x, rfl, hx⟩ : ∃ i, r = some (.inr (.inr (n, i))) ∧ i < q_cnt n := hr; cases List.mem_singleton.mp h1; exact Or.inl hx
  · exact h v h1
theorem q_split {st : List qV} {n : Nat} (_hn : n ≤ st.length) : st.map (q_cv G) = ((st.take n).reverse.map (q_cv G)).reverse ++ (st.drop n).map (q_cv G) := by
  rw [← List.map_reverse, List.reverse_reverse, ← List.map_append, List.take_append_drop]
theorem lv_roomN {n : Nat} {ls : Array Slot} {st : List Value} (h : n ≤ 8) : 2 * (F0 m pc ls st).monitorRoom + n ≤ 8 := by
  show 2 * 0 + n ≤ 8
  omega
theorem q_recv (hW : q_W G s) (hfo : ∀ f, q_fo f) (hH : q_H G S H) {f i a n r9 : Nat} {pc' : Nat} {z : Int32} {zl : Int64} {w1 : Int32} {nL : Nat} {ret : Option FieldType} {q : qM} (hi : i < q_cnt f) (hq : mt a = some q) (hc : q_ckx mt nL ret (44, pc', a, n, r9, z, zl, [(w1, f)]) = true) : ∃ cellB : Cell, H[G.1 f i]? = some cellB ∧ cellB.vm.isStatics = false ∧ s.vm.findClass q.1.cls = some cellB.cls := by
  have hf := hfo f
  unfold q_fo at hf
  have hc : (match vwCl[q_ci f]?, mt a with
    | some r, some q => decide (r.1 = q.1.cls)
    | _, _ => false) = true := hc
  unfold q_ci at hc
  cases hfam : q_fam f with
  | inr y => rw [hfam, hq] at hc; cases hc
  | inl y =>
    obtain ⟨C, T, N, ty, h1, -⟩ := hf y hfam
    rw [hfam, hq] at hc
    dsimp only at hc
    rw [h1] at hc
    have hC : C = q.1.cls := of_decide_eq_true hc
    have h0 := hH.1 f i hi
    unfold q_cel at h0
    rw [hfam] at h0
    obtain ⟨r, g1, cell, q1, q2, q3, -⟩ := h0
    have hcls := (hW.1.1 y.1 _ h1).2
    exact ⟨cell, q1, by rw [q3]; rfl, by rw [q2, ← hC]; exact hcls.1⟩
theorem q_sw_elim {x : Int32} {J : Nat → Prop} {a : Nat} : ∀ {w : List (Int32 × Nat)}, q_sw x J a w → (∃ (j : Nat) (k : Int32) (b : Nat), w[j]? = some (k, b) ∧ k = x ∧ J b) ∨ ((∀ e ∈ w, x ≠ e.1) ∧ J a)
  | [], h => Or.inr ⟨fun e he => (by cases he), h⟩
  | (k, b) :: r, h => by
    by_cases hx : x = k
    · exact Or.inl ⟨0, k, b, rfl, hx.symm, h.1 hx⟩
    · rcases q_sw_elim (h.2 hx) with ⟨j, k', b', h1, h2, h3⟩ | ⟨h1, h2⟩
      · exact Or.inl ⟨j + 1, k', b', h1, h2, h3⟩
      · exact Or.inr ⟨fun e he => (List.mem_cons.mp he).elim (fun q => by rw [q]; exact hx) (h1 e), h2⟩
theorem q_sw_look {x : Int32} {J : Nat → Prop} {a pc : Nat} {B : List Nat} : ∀ {w : List (Int32 × Nat)}, q_sw x J a w → ∃ b, J b ∧ Op.lookupswitch.offset (w.map (fun e => (e.1.toInt, (q_bp B e.2 : Int) - pc))) ((q_bp B a : Int) - pc) x.toInt = (q_bp B b : Int) - pc
  | [], h => ⟨a, h, rfl⟩
  | (k, b) :: r, h => by
    by_cases hx : x = k
    · subst hx
      exact ⟨b, h.1 rfl, by simp [Op.lookupswitch.offset]⟩
    · obtain ⟨b', h1, h2⟩ := q_sw_look (pc := pc) (B := B) (h.2 hx)
      exact ⟨b', h1, by rw [List.map_cons, lv_osw hx rfl]; exact h2⟩
theorem q_acopy (hx : p.tables.exec = Jvm.exec) (hb : c.code = cc) (hml : c.maxLocals = arr.size) {own : String} {index : Nat} (hown : s.vm.findClass own = some m.cls) (hlink : (Cond.methodLink own index arraycopyName).before args s = true) (hts : ∀ w ∈ q_TB, w.before args s = true) (hW : q_W G s) (hH : q_H G S H) (hS : va_S (q_A G) s.heap H locs) {i j : Nat} (hi : i < q_cnt 27) (hj : j < q_cnt 27) (hij : ¬ i = j)
    (hframes : 1 ≤ R.frames) (hlocals : (rest.map fun v => v.category).sum + 100 ≤ R.locals) (hd : decode cc pc = .ok (.invokestatic index, 3))
    (kk : ∀ H' locs', q_H G (q_cp6 S i j) H' → va_S (q_A G) s.heap H' locs' → W p l e R s m args below meth c H' locs' 0 0 Q (F0 m (pc + 3) arr rest)) : W p l e R s m args below meth c H locs 0 0 Q (F0 m pc arr (.int 6 :: .int 0 :: .ref (G.1 27 j) :: .int 0 :: .ref (G.1 27 i) :: rest)) := by
  have hA0 := (hW.2.1 27 i hi (by decide)).1
  have hA1 := (hW.2.1 27 j hj (by decide)).1
  have k0 : q_ak 27 = 0 := rfl
  rw [q_aty0 k0] at hA0 hA1
  have hc0 : H[G.1 27 i]? = some (vp_cell (G.2.1 27 i) (6, .inl (q_I S 27 i))) := hH.1 27 i hi
  have hc1 : H[G.1 27 j]? = some (vp_cell (G.2.1 27 j) (6, .inl (q_I S 27 j))) := hH.1 27 j hj
  intro T hT X
  obtain ⟨-, k0, hk0, cm0, hkk0⟩ := hA0 6 (fun z => .int (q_I S 27 i z))
  obtain ⟨-, k1, hk1, cm1, hkk1⟩ := hA1 6 (fun z => .int (q_I S 27 j z))
  obtain ⟨vm', X', step⟩ := X.arraycopy hx hown hlink (hts _ q_ac.1) (hts _ q_ac.2.1) (hts _ q_ac.2.2) (src := G.1 27 i) (dst := G.1 27 j) (cs := vp_cell (G.2.1 27 i) (6, .inl (q_I S 27 i))) (cd := vp_cell (G.2.1 27 j) (6, .inl (q_I S 27 j))) (srcPos := 0) (destPos := 0) (n := 6) (by rw [hT]; exact hc0) (by rw [hT]; exact hc1)
    (fun _ h => by cases h) (fun _ h => by cases h) (fun h => by cases h) (fun h => by cases h) hk0 hk1 hkk0 hkk1 (by simp [refKind]) (by decide) (by decide) (by decide)
    (by show ¬ _ > ((arrV (G.2.1 27 i) 6 (fun z => .int (q_I S 27 i z))).slots.size : Int); rw [arrV_size]; decide)
    (by show ¬ _ > ((arrV (G.2.1 27 j) 6 (fun z => .int (q_I S 27 j z))).slots.size : Int); rw [arrV_size]; decide)
    (fun vm₁ _ z hz => by
      have hz : z < 6 := hz
      have e : (vp_cell (G.2.1 27 i) (6, .inl (q_I S 27 i))).slots.getD ((0 : Int32).toNatClampNeg + z) .null = .int (q_I S 27 i ((0 : Int32).toNatClampNeg + z)) := by
        show (arrV (G.2.1 27 i) 6 (fun w => .int (q_I S 27 i w))).slots.getD _ _ = _
        rw [Array.getD_eq_getD_getElem?, arrV_read _ _ (by rw [sb_cl0]; omega)]
        rfl
      refine ⟨?_, ?_⟩
      · rw [e]
        rfl
      · rw [e]
        exact trivial)
    (g := F0 m pc arr (.int 6 :: .int 0 :: .ref (G.1 27 j) :: .int 0 :: .ref (G.1 27 i) :: rest)) rfl (by rw [hml]) (rest := rest) rfl (by rw [hb]; exact hd) hframes (by show 2 * 0 + _ + _ ≤ _; rw [show nativeFrameWords "java/lang/System" "arraycopy" 5 = 7 from rfl]; omega)
  have e1 : copied (vp_cell (G.2.1 27 i) (6, .inl (q_I S 27 i))) (vp_cell (G.2.1 27 j) (6, .inl (q_I S 27 j))) 0 0 6 = vp_cell (G.2.1 27 j) (6, .inl (va_cpy (q_I S 27 i) (q_I S 27 j) 0 0 6)) := va_copied (fun z => .int z) _ _ _ _ (show (0 : Int32).toNatClampNeg + (6 : Int32).toNatClampNeg ≤ 6 by decide)
  rw [e1] at X' step
  have hl : G.1 27 j < H.size := (Array.getElem?_eq_some_iff.mp hc1).1
  generalize hcv : vp_cell (G.2.1 27 j) (6, .inl (va_cpy (q_I S 27 i) (q_I S 27 j) 0 0 6)) = cv at X' step
  have hheap : ((T.setVm vm').setCell (G.1 27 j) cv).heap = H.setIfInBounds (G.1 27 j) cv := by rw [← hT]; rfl
  have oq : ∀ q : Nat, q ≠ G.1 27 j → (H.setIfInBounds (G.1 27 j) cv)[q]? = H[q]? := fun q hq => by simp [Array.getElem?_setIfInBounds, Ne.symm hq]
  have eI : q_I (q_cp6 S i j) 27 j = va_cpy (q_I S 27 i) (q_I S 27 j) 0 0 6 := by
    funext z
    show (if (27 : Nat) = 27 ∧ j = j ∧ z < 6 then S.1 27 i z else S.1 27 j z) = _
    unfold va_cpy
    by_cases h : z < 6
    · rw [if_pos ⟨rfl, rfl, h⟩, if_pos (by omega), show 0 + (z - 0) = z by omega]; rfl
    · rw [if_neg (fun q => h q.2.2), if_neg (by omega)]; rfl
  have hH' : q_H G (q_cp6 S i j) (H.setIfInBounds (G.1 27 j) cv) := by
    refine q_cel_set hW hH hj ?_ (q_oth (by decide) (fun g k hne => ?_) (fun _ _ _ => rfl) rfl) oq (fun g j k h x hj hk => hH.2 g j k h x hj hk)
    · rw [q_cel0 rfl, eI]
      show (H.setIfInBounds (G.1 27 j) cv)[G.1 27 j]? = some (vp_cell _ _)
      simp [Array.getElem?_setIfInBounds, hl, ← hcv]
      rfl
    · funext z
      show (if g = 27 ∧ k = j ∧ z < 6 then S.1 27 i z else S.1 g k z) = _
      rw [if_neg (fun q => hne ⟨q.1, q.2.1⟩)]
      rfl
  obtain ⟨t, a1, b1⟩ := kk _ _ hH' ⟨by simp; exact hS.1, fun q g1 g2 => by
      rw [oq q (fun e => g2 (by rw [e]; exact ⟨27, j, hj, rfl⟩))]
      exact hS.2.1 q g1 g2, fun q hq => by
      rcases List.mem_append.mp hq with h | h
      · exact hS.2.2 q h
      · obtain ⟨z, -, hz⟩ := List.mem_map.mp h
        rw [← hz]
        exact ⟨27, j, hj, rfl⟩⟩ _ hheap X'
  exact ⟨t, step t a1, b1⟩
end QT3
