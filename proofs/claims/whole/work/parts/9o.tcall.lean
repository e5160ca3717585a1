/-! A call that throws, and goes on to the caller -/
theorem q_callX {R : Room} {s : State} {args : Array Value} {d : Nat} {y : qM} {own : String} {index n d' : Nat} (hts : ∀ w ∈ q_TB, w.before args s = true) (hlt : d' < d) (hR : R.frames = d ∧ R.locals = 200 * d) (w1 : Cond.methodLink own index y.1 ∈ q_TB) (w3 : Cond.initialized y.1.cls ∈ q_TB) (w4 : Cond.code y.1 y.2.1 y.2.2.1 y.2.2.2 ∈ q_TB)
    (hd : y.1.cls ≠ "java/lang/invoke/MethodHandle" ∧ y.1.cls ≠ "java/lang/invoke/VarHandle" ∧ (parseMethodDescriptor y.1.desc).map (fun d => d.parameters.length) = some n) (h150 : y.2.2.1 ≤ 150) : CallB R s args own index y.1 y.2.1 y.2.2.1 y.2.2.2 (q_ws y) (q_rmx d') 1 6 n := by
  refine ⟨rfl, rfl, ?_, ?_, ?_, List.mem_cons_self, hts _ w4, hts _ w3, ⟨hd.1, hd.2.1⟩, fun sig h => ?_, hts _ w1⟩
  · show d' + 1 ≤ R.frames
    omega
  · show 8 + (y.2.2.1 + 11) + 200 * d' ≤ R.locals
    omega
  · intro w hw a' U hWm
    have hw : w ∈ q_TB := (List.mem_cons.mp hw).elim (fun e => e ▸ w4) id
    exact word_at hWm (good_of_word (q_TB_good hw).2) (hts w hw)
  · have h2 := hd.2.2
    rw [h] at h2
    exact (Option.some.inj h2).symm
set_option maxHeartbeats 1000000 in
theorem q_tcall {mt : Nat → Option qM} {p : Program} {l : Launch} {e : Env} {R : Room} {s : State} {m : MethodId} {args : Array Value} {below : List Frame} {meth : Method} {c : Code} {G : qG} {cc : ByteArray} {nL : Nat} {own : String} {d : Nat} {K : qK} {B : List Nat} {ret : Option FieldType} {rt : Nat} {xp : String → qSt → Prop} (Z : q_Tx mt p l e R s m args below meth c G cc nL own d K ret rt xp)
    {pc pc' a n r9 : Nat} {z : Int32} {zl : Int64} {w1 : Int32} {f : Nat} {os : List qO} (hck : q_ckb mt cc K B nL ret pc ((44, pc', a, n, r9, z, zl, [(w1, f)]) :: os) = true) {ls : qLs} {st as : List qV} {i0 : Nat} {S : qSt} (has : (st.take n).reverse = .inr (.inr (f, i0)) :: as) (hn : n ≤ st.length) (hw8 : q_w (st.drop n) ≤ 8) {d' r8 : Nat} (hlt : d' < d) (hM : q_Thr mt l d' a r8 (.inr (.inr (f, i0)) :: as) S xp) :
    q_At p l e R s m args below meth c (vx_MQ below (q_Qc G rt q_no) (q_Xc G xp) args s 1 6 (q_A G)) G nL pc ls st S := by
  obtain ⟨⟨X, hK, hret, hlocks, hQ⟩, hRc, htab, hXW⟩ := Z
  obtain ⟨hx, hb, hml, hown, hts, hW, hR, hfo, hE⟩ := id X
  intro H locs arr hH hS hl hol hos
  unfold q_ckb at hck
  rw [if_neg (show ¬ (44 : Nat) = 50 by decide)] at hck
  cases hd : decode cc pc with
  | error er => rw [hd] at hck; cases hck
  | ok q =>
    obtain ⟨i, len⟩ := q
    rw [hd] at hck
    simp only [Bool.and_eq_true, List.any_eq_true, decide_eq_true_eq] at hck
    obtain ⟨h1, ⟨x, hx1, hx2⟩, hc, h4⟩ := hck
    subst hx2
    subst h1
    simp only [q_exp, List.mem_map, List.mem_filter, decide_eq_true_eq] at hx1
    obtain ⟨q, ⟨h1, h2, h3, h4⟩, h5⟩ := hx1
    cases h5
    obtain ⟨idx, y1, y2, y3⟩ := q
    dsimp only at h2 h3 h4 hd
    subst h2; subst h3; subst h4
    have hcp := hK.1 _ h1
    unfold q_cpok at hcp
    obtain ⟨q, hq, w1, w2, w3, w4, w5, hdd, h150⟩ := hcp
    have hsp := q_split (G := G) hn
    rw [has] at hsp
    have hof : q_oks (.inr (.inr (f, i0)) :: as) := has ▸ q_oks_args hos
    have hrecv := q_recv hW hfo hH (q_okA (q_okH hof) (q_ck44 hc)) hq hc
    have hlen : as.length = y3 := by
      have := congrArg List.length has
      simp at this
      omega
    have hrun := vx_runV (g := F0 m pc' arr (st.map (q_cv G))) (As := as.map (q_cv G)) (b := G.1 f i0) (rest := (st.drop (y3 + 1)).map (q_cv G)) (Ts := q_TB) (e := e) (below := below) (meth := meth) (locs := locs) (cells := 0) (slots := 0) ⟨hx, hb, hml, hown, hts⟩ (hM G q hq) (bytes := q.2.1) (maxL := q.2.2.1) (ret := q.2.2.2) (n := y3) (C := q.1.cls) ⟨q_callX hts hlt hR w1 w4 w5 hdd h150, hts _ w2, hts _ w3⟩ ⟨q_PcX_blind G _ S, hrecv, fun U hU hWm => ⟨⟨rfl, hW.moved hWm.alike, by rw [hU]; exact hH, hof, q_E.go hS hWm hU hE⟩, hXW.warm hWm⟩⟩ rfl (by simp [hlen]) hl.1 (by simpa [q_cv] using hsp) (by rw [q_w_map]; exact lv_roomN hw8) hd ⟨by omega, by omega⟩
    intro T hT X9
    rcases hrun T hT X9 with ⟨v, st₀, t, T', L, h0, X', hL, e1, e2, ⟨⟨r, S', hv, hty, hp, hh⟩, hF⟩, st9⟩ | ⟨q9, st₀, t, T', L, E, ce, h0, X', hL, e1, e2, ⟨⟨S', hp, hh, hw⟩, hF⟩, hce, hcv, hcl, st9⟩
    · exact hp.elim
    · obtain ⟨k1, k2, k3⟩ := vx_keep h0 e1 hS (fun q _ h => h) (fun q h => h) hL hF
      have hout := vx_out (p := p) (l := l) (e := e) (R := R) (s := s) (m := m) (args := args) (below := below) (meth := meth) (c := c) (H := T'.heap) (locs := locs ++ L) (cells := 0 + 1) (slots := 0 + 6) (free := q_A G) (ls := arr) (rest := (st.drop (y3 + 1)).map (q_cv G)) (Qc := q_Qc G rt q_no) (XC := q_Xc G xp) (pc := pc') (E := E) (ce := ce) (q := q9) (mc := 1) (ms := 6) (fun x hx => (htab x hx).elim) hlocks (by rw [e1]; exact hce) hcv hcl (fun t9 ht9 hal => ⟨⟨S', hp, by rw [ht9, e1]; exact hh, hW.moved hal⟩, k3.F ht9⟩) (fun z hz => k3.2.2 z hz) (Nat.le_refl _) (Nat.le_refl _)
      obtain ⟨t2, a1, b1⟩ := hout T' rfl X'
      exact ⟨t2, st9.trans a1, b1⟩
