/-! A method that catches what its one call throws -/
def w_dk (cc : ByteArray) : Nat → List (Instr × Nat) → Bool
  | _, [] => true
  | pc, x :: xs => (match decode cc pc with
    | .ok y => decide (y = x)
    | _ => false) && w_dk cc (pc + x.2) xs
theorem w_dk_c {cc : ByteArray} {pc : Nat} {x : Instr × Nat} {xs : List (Instr × Nat)} (h : w_dk cc pc (x :: xs) = true) : decode cc pc = .ok x ∧ w_dk cc (pc + x.2) xs = true := by
  unfold w_dk at h
  rw [Bool.and_eq_true] at h
  refine ⟨?_, h.2⟩
  have h1 := h.1
  split at h1
  · rename_i y hy
    rw [hy, of_decide_eq_true h1]
  · cases h1
def q_wsW (q : qM) (hh : List (Nat × Nat × Nat × Nat)) : List Cond := .codeWith q.1 q.2.1 q.2.2.1 q.2.2.2 hh :: q_TB
def q_xno : String → qSt → Prop := fun _ _ => False
/-- the contract of a method with an exception table, that throws nothing -/
def q_WM (l : Launch) (d : Nat) (q : qM) (hh : List (Nat × Nat × Nat × Nat)) (as : List qV) (S : qSt) (post : Option qV → qSt → Prop) : Prop := ∀ G : qG, vx_Met l q.1 (q_wsW q hh) (q_rmx d) (q_PcX G as S) (q_Qc G 1 post) (q_Xc G q_xno) 1 6 (q_A G)
def q_Wx (p : Program) (l : Launch) (e : Env) (R : Room) (s : State) (m : MethodId) (args : Array Value) (below : List Frame) (meth : Method) (c : Code) (G : qG) (cc : ByteArray) (nL : Nat) (own : String) (d : Nat) (K : qK) (post : Option qV → qSt → Prop) (hh : List (Nat × Nat × Nat × Nat)) : Prop :=
  q_Sx q_mt p l e R s m args below meth c (vx_MQ below (q_Qc G 1 post) (q_Xc G q_xno) args s 1 6 (q_A G)) G cc nL own d K (some .int) 1 post 1 6 ∧ (R.cells = 1 ∧ R.slots = 6) ∧ c.exceptionTable.toList = tableOf hh ∧ q_XW s
/-- the handler at hp answers z -/
def q_hck (cc : ByteArray) (nL hp : Nat) (z : Int32) : Bool := match decode cc hp with
  | .ok (.astore a, 2) => decide (a < nL) && w_dk cc (hp + 2) [(.iconst z.toInt, 1), (.ireturn, 1)]
  | .ok (.astore_n a, 1) => decide (a.val < nL) && w_dk cc (hp + 1) [(.iconst z.toInt, 1), (.ireturn, 1)]
  | _ => false
/-- an exception of class E, thrown at pc, goes to the handler at h -/
def q_cat (own : String) (hh : List (Nat × Nat × Nat × Nat)) (pc : Nat) (E : String) (h : Nat) : Prop := ∃ (pre : List ExceptionTableEntry) (x : ExceptionTableEntry) (suf : List ExceptionTableEntry), tableOf hh = pre ++ x :: suf ∧
  (∀ z ∈ pre, z.catchType ≠ 0 ∧ Cond.classLink own z.catchType sNS ∈ q_TB ∧ E = sIA) ∧ covers x pc = true ∧ x.catchType ≠ 0 ∧ Cond.classLink own x.catchType E ∈ q_TB ∧ (E = sIA ∨ E = sNS) ∧ x.handlerPc = h
set_option maxHeartbeats 1000000 in
theorem q_hand {p : Program} {l : Launch} {e : Env} {R : Room} {s : State} {m : MethodId} {args : Array Value} {below : List Frame} {meth : Method} {c : Code} {G : qG} {cc : ByteArray} {nL : Nat} {own : String} {d : Nat} {K : qK} {post : Option qV → qSt → Prop} {hh : List (Nat × Nat × Nat × Nat)} (Z : q_Wx p l e R s m args below meth c G cc nL own d K post hh)
    {hp : Nat} {z : Int32} (hk : q_hck cc nL hp z = true) {H : Heap} {locs : List Loc} {arr : Array Slot} {S' : qSt} {q : Nat} {lv : List (Nat × Value)} (hl : lv_has arr nL lv) (hH : q_H G S' H) (hS : va_S (q_A G) s.heap H locs) (hp9 : post (some (.inl z)) S') :
    W p l e R s m args below meth c H locs 1 6 (vx_MQ below (q_Qc G 1 post) (q_Xc G q_xno) args s 1 6 (q_A G)) (F0 m hp arr [.ref q]) := by
  obtain ⟨⟨X, hK, hret, hlocks, hQ⟩, hRc, htab, hXW⟩ := Z
  obtain ⟨hx, hb, hml, hown, hts, hW, hR, hfo, hE⟩ := id X
  have last : ∀ pc arr', w_dk cc pc [(.iconst z.toInt, 1), (.ireturn, 1)] = true → W p l e R s m args below meth c H locs 1 6 (vx_MQ below (q_Qc G 1 post) (q_Xc G q_xno) args s 1 6 (q_A G)) (F0 m pc arr' []) := by
    intro pc arr' h
    obtain ⟨d1, h⟩ := w_dk_c h
    obtain ⟨d2, -⟩ := w_dk_c h
    refine lv_iconst (v := z) hx hb d1 (by simp) ?_
    exact vx_ret (W.iret (Qc := q_Qc G 1 post) hx hb hret (fun t ht hWm => ⟨⟨some (.inl z), S', rfl, ⟨z, rfl⟩, hp9, by rw [ht]; exact hH, hW.moved hWm.alike⟩, hS.F ht⟩) (fun q hq => hS.2.2 q hq) d2 hlocks)
  unfold q_hck at hk
  split at hk
  · rename_i a hd
    rw [Bool.and_eq_true] at hk
    exact lv_astore hx hb hd hl (of_decide_eq_true hk.1) rfl (fun arr' _ => last _ _ hk.2)
  · rename_i a hd
    rw [Bool.and_eq_true] at hk
    exact lv_astore_n hx hb hd rfl hl (of_decide_eq_true hk.1) rfl (fun arr' _ => last _ _ hk.2)
  · cases hk
set_option maxHeartbeats 1000000 in
theorem q_ccall {p : Program} {l : Launch} {e : Env} {R : Room} {s : State} {m : MethodId} {args : Array Value} {below : List Frame} {meth : Method} {c : Code} {G : qG} {cc : ByteArray} {nL : Nat} {own : String} {d : Nat} {K : qK} {B : List Nat} {post : Option qV → qSt → Prop} {hh : List (Nat × Nat × Nat × Nat)} (Z : q_Wx p l e R s m args below meth c G cc nL own d K post hh)
    {pc pc' a n r9 : Nat} {z : Int32} {zl : Int64} {w1 : Int32} {f : Nat} {os : List qO} (hck : q_ckb q_mt cc K B nL (some .int) pc ((44, pc', a, n, r9, z, zl, [(w1, f)]) :: os) = true) {ls : qLs} {st as : List qV} {i0 : Nat} {S : qSt} (has : (st.take n).reverse = .inr (.inr (f, i0)) :: as) (hn : n ≤ st.length) (hw8 : q_w (st.drop n) ≤ 8) {d' r8 : Nat} (hlt : d' < d) {xp : String → qSt → Prop} (hM : q_Thr q_mt l d' a r8 (.inr (.inr (f, i0)) :: as) S xp)
    (hxp : ∀ E S', xp E S' → ∃ h z, q_cat own hh pc' E h ∧ q_hck cc nL h z = true ∧ post (some (.inl z)) S') :
    q_At p l e R s m args below meth c (vx_MQ below (q_Qc G 1 post) (q_Xc G q_xno) args s 1 6 (q_A G)) G nL pc ls st S := by
  have Z9 := Z
  obtain ⟨⟨X, hK, hret, hlocks, hQ⟩, hRc, htab, hXW⟩ := Z
  obtain ⟨hx, hb, hml, hown, hts, hW, hR, hfo, hE⟩ := id X
  intro H locs arr hH hS hl hol hos
  unfold q_ckb at hck
  rw [if_neg (show ¬ (44 : Nat) = 50 by decide)] at hck
  cases hd : decode cc pc with
  | error er => rw [hd] at hck; cases hck
  | ok q =>
    obtain ⟨i, len⟩ := q
    rw [hd] at hck
    simp only [Bool.and_eq_true, List.any_eq_true, decide_eq_true_eq] at hck
    obtain ⟨h1, ⟨x, hx1, hx2⟩, hc, h4⟩ := hck
    subst hx2
    subst h1
    simp only [q_exp, List.mem_map, List.mem_filter, decide_eq_true_eq] at hx1
    obtain ⟨q, ⟨h1, h2, h3, h4⟩, h5⟩ := hx1
    cases h5
    obtain ⟨idx, y1, y2, y3⟩ := q
    dsimp only at h2 h3 h4 hd
    subst h2; subst h3; subst h4
    have hcp := hK.1 _ h1
    unfold q_cpok at hcp
    obtain ⟨q, hq, w1, w2, w3, w4, w5, hdd, h150⟩ := hcp
    have hsp := q_split (G := G) hn
    rw [has] at hsp
    have hof : q_oks (.inr (.inr (f, i0)) :: as) := has ▸ q_oks_args hos
    have hrecv := q_recv hW hfo hH (q_okA (q_okH hof) (q_ck44 hc)) hq hc
    have hlen : as.length = y3 := by
      have := congrArg List.length has
      simp at this
      omega
    have hrun := vx_runV (g := F0 m pc' arr (st.map (q_cv G))) (As := as.map (q_cv G)) (b := G.1 f i0) (rest := (st.drop (y3 + 1)).map (q_cv G)) (Ts := q_TB) (e := e) (below := below) (meth := meth) (locs := locs) (cells := 0) (slots := 0) ⟨hx, hb, hml, hown, hts⟩ (hM G q hq) (bytes := q.2.1) (maxL := q.2.2.1) (ret := q.2.2.2) (n := y3) (C := q.1.cls) ⟨q_callX hts hlt hR w1 w4 w5 hdd h150, hts _ w2, hts _ w3⟩ ⟨q_PcX_blind G _ S, hrecv, fun U hU hWm => ⟨⟨rfl, hW.moved hWm.alike, by rw [hU]; exact hH, hof, q_E.go hS hWm hU hE⟩, hXW.warm hWm⟩⟩ rfl (by simp [hlen]) hl.1 (by simpa [q_cv] using hsp) (by rw [q_w_map]; exact lv_roomN hw8) hd ⟨by omega, by omega⟩
    intro T hT X9
    rcases hrun T hT X9 with ⟨v, st₀, t, T', L, h0, X', hL, e1, e2, ⟨⟨r, S', hv, hty, hp, hh⟩, hF⟩, st9⟩ | ⟨q9, st₀, t, T', L, E, ce, h0, X', hL, e1, e2, ⟨⟨S', hp, hh, hw⟩, hF⟩, hce, hcv, hcl, st9⟩
    · exact hp.elim
    · obtain ⟨k1, k2, k3⟩ := vx_keep h0 e1 hS (fun q _ h => h) (fun q h => h) hL hF
      obtain ⟨h9, z9, ⟨pre, x9, suf, c1, c2, c3, c4, c5, c6, c7⟩, hk9, hp9⟩ := hxp E S' hp
      subst c7
      have hcast : (Cond.castable E E).before args s = true := by
        rcases c6 with rfl | rfl
        · exact (hXW.1 (.castable "java/lang/IllegalArgumentException" "java/lang/IllegalArgumentException") (by simp [q_xws])).use rfl
        · exact (hXW.1 (.castable "java/util/NoSuchElementException" "java/util/NoSuchElementException") (by simp [q_xws])).use rfl
      have hcat := vx_catch (p := p) (l := l) (e := e) (R := R) (s := s) (m := m) (args := args) (below := below) (meth := meth) (c := c) (H := T'.heap) (locs := locs ++ L) (cells := 0 + 1) (slots := 0 + 6) (Q := vx_MQ below (q_Qc G 1 post) (q_Xc G q_xno) args s 1 6 (q_A G)) (ls := arr) (rest := (st.drop (y3 + 1)).map (q_cv G)) (pc := pc') (own := own) (name := E) (E := E) (ce := ce) (q := q9) hown pre x9 suf (htab.trans c1) (fun z hz => Or.inr ⟨(c2 z hz).1, sNS, hts _ (c2 z hz).2.1, by rw [(c2 z hz).2.2]; exact hXW.2⟩) c3 c4 (hts _ c5) hcast (by rw [e1]; exact hce) hcv hcl
        (q_hand Z9 hk9 hl (by rw [e1]; exact hh) k3 hp9)
      obtain ⟨t2, a1, b1⟩ := hcat T' rfl X'
      exact ⟨t2, st9.trans a1, b1⟩
