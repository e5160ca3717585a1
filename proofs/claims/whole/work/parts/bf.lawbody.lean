/-! The law's own body: what is fixed, its calls -/
def R_law : String := "BlockedCarsLaw"
def lw_P (b : Addr) (xs : List Int32) (args : Array Value) (s : State) : Prop := args = #[.ref b] ∧ s.IntsAt b xs ∧ xs.length ≤ 4608 ∧ (Jvm.Cond.and given_1 narrow_1).before args s = true
def lw_Q (_ : Array Value) (s : State) (o : Outcome) (t : State) : Prop := o = .returned (some (.int 1)) ∧ Framed s o t [] 601024 7293034
def lw_Z (below : List Frame) (a : Array Value) (s : State) : State → Prop := fun t => ∃ o, t.status = .running ∧ Ended t below o ∧ lw_Q a s o t
/-- the law's own end, with 1 on the stack, nothing written that was there before, its room as the claim has it -/
theorem lw_ret {p : Program} {l : Launch} {e : Env} {s : State} {m : MethodId} {below : List Frame} {meth : Method} {c : Code} {b : Nat} (hx : p.tables.exec = Jvm.exec) (hb : c.code = code) (hr : meth.sig.returnType = ret) (hlocks : meth.locks = false) {pc : Nat} {H : Heap} {ls : Array Slot} (hdg : decode code pc = .ok (.ireturn, 1)) : W p l e room_1 s m #[Value.ref b] below meth c H [] 601024 7293034 (lw_Z below #[Value.ref b] s) (F0 m pc ls [.int 1]) := by
  intro T hT X
  obtain ⟨fs, hret, hrun, hended, hW, hframe⟩ := X.leave (v := some (.int 1)) (hlocks := hlocks) (fun h => by rw [hr] at h; cases h)
  have hmeth' : T.vm.method? m = some meth := X.method'
  refine ⟨T.setFrames fs, ?_, .returned (some (.int 1)), hrun, hended, rfl, ⟨_, rfl⟩, hW, hframe⟩
  jvm_step X.here [X.here.top, hx, hb, hdg, hmeth', hr, ret, narrow_b1]
  (try refine ⟨rfl, ?_⟩); (try refine ⟨rfl, ?_⟩)
  first | (intro acts; rw [hret _ acts rfl rfl rfl]) | rw [hret _ _ rfl rfl rfl]
  exact Steps.refl _
/-- what holds at the law's entry: the machine, the code, the tables' words (any of lw_tbl by 'hts w (by decide +kernel)'), the script of L ints xs at the cell b, what the Statement gives of the start (any of its parts by flat_of_before) -/
def lw_At (p : Program) (s : State) (m : MethodId) (meth : Method) (c : Code) (b L : Nat) (xs : Nat → Int32) : Prop :=
  p.tables.exec = Jvm.exec ∧ c.code = code ∧ meth.sig.returnType = ret ∧ c.maxLocals = 7 ∧ s.vm.findClass R_law = some m.cls ∧ (∀ w ∈ lw_tbl, w.before #[Value.ref b] s = true) ∧ va_X b L xs s s.heap ∧ b < s.heap.size ∧ meth.locks = false ∧ (Jvm.Cond.and given_1 narrow_1).before #[Value.ref b] s = true

def LM (p : Program) (s : State) (m : MethodId) (meth : Method) (c : Code) (b L : Nat) (xs : Nat → Int32) (G : qG) : Prop :=
  p.tables.exec = Jvm.exec ∧ c.code = code ∧ meth.sig.returnType = ret ∧ c.maxLocals = 7 ∧ s.vm.findClass R_law = some m.cls ∧ (∀ w ∈ q_TB, w.before #[Value.ref b] s = true) ∧ va_X b L xs s s.heap ∧ b < s.heap.size ∧ meth.locks = false ∧ q_W G s ∧ q_E G s s.heap ∧ q_XW s ∧ (∀ f i, i < q_cnt f → s.heap.size ≤ G.1 f i) ∧ L ≤ 4608
def l_A (s : State) : Nat → Prop := fun q => s.heap.size ≤ q
def l_lv (b : Nat) (G : qG) (i : Nat) : List (Nat × Value) := [(0, .ref b), (1, .ref (G.1 0 0)), (2, .ref (G.1 40 0)), (3, .ref (G.1 80 0)), (4, .int (nI i))]
section LB
variable {p : Program} {l : Launch} {e : Env} {s : State} {m : MethodId} {below : List Frame} {meth : Method} {c : Code} {b L : Nat} {xs : Nat → Int32} {G : qG} {H : Heap} {locs : List Loc} {cells slots : Nat} {arr : Array Slot} {S : qSt} {pc i : Nat}
theorem l_S (hS : va_S (l_A s) s.heap H locs) : va_S (q_A G) s.heap H [] := ⟨hS.1, fun q h1 _ => hS.2.1 q h1 (Nat.not_le.mpr h1), fun _ h => by cases h⟩
theorem l_in (C : LM p s m meth c b L xs G) {q : Nat} (h : q_A G q) : l_A s q := by
  obtain ⟨-, -, -, -, -, -, -, -, -, -, -, -, h9, -⟩ := C
  obtain ⟨f, i, hi, rfl⟩ := h
  exact h9 f i hi
set_option maxHeartbeats 1000000 in
/-- a call of one of the two objects -/
theorem l_call (C : LM p s m meth c b L xs G) {d k idx n f : Nat} {post : Option qV → qSt → Prop} {as : List qV} (hcp : q_cpok q_mt "BlockedCarsLaw" (idx, 1, k, n)) (hkx : q_ckx q_mt 7 (some .int) (44, 0, k, n + 1, 1, 0, 0, [(0, f)]) = true) (hf : 0 < q_cnt f) (hlen : as.length = n) (hok : q_oks as) (hM : q_Met q_mt l d k 1 (.inr (.inr (f, 0)) :: as) S post) (hd : d ≤ 62) (hH : q_H G S H) (hS : va_S (l_A s) s.heap H locs) (hsz : arr.size = 7) {rest : List Value} (hw : (rest.map fun v => v.category).sum ≤ 8) (hc : cells ≤ 601024) (hsl : slots ≤ 7293034) (hdg : decode code pc = .ok (.invokevirtual idx, 3))
    (kk : ∀ v S' H1 locs1, post (some (.inl v)) S' → q_H G S' H1 → va_S (l_A s) s.heap H1 locs1 → W p l e room_1 s m #[Value.ref b] below meth c H1 locs1 cells slots (lw_Z below #[Value.ref b] s) (F0 m (pc + 3) arr (.int v :: rest))) :
    W p l e room_1 s m #[Value.ref b] below meth c H locs cells slots (lw_Z below #[Value.ref b] s) (F0 m pc arr ((as.map (q_cv G)).reverse ++ .ref (G.1 f 0) :: rest)) := by
  have C9 := C
  obtain ⟨hx, hb, hret, hml, hown, hts, hX, hbl, hlk, hW, hE, hXW, hG, hL⟩ := C
  unfold q_cpok at hcp
  obtain ⟨q, hq, w1, w2, w3, w4, w5, hdd, h150⟩ := hcp
  have hof : q_oks (.inr (.inr (f, 0)) :: as) := q_okT (Or.inl hf) hok
  have hrecv := q_recv hW q_fos hH hf hq hkx
  have hCB : CallB room_1 s #[Value.ref b] "BlockedCarsLaw" idx q.1 q.2.1 q.2.2.1 q.2.2.2 (q_ws q) (q_rm d) 0 0 n := by
    refine ⟨rfl, rfl, ?_, ?_, ?_, List.mem_cons_self, hts _ w5, hts _ w4, ⟨hdd.1, hdd.2.1⟩, fun sig h => ?_, hts _ w1⟩
    · show d + 1 ≤ 2048
      omega
    · show 8 + (q.2.2.1 + 11) + 200 * d ≤ 84000
      omega
    · intro w hw a' U hWm
      have hw : w ∈ q_TB := (List.mem_cons.mp hw).elim (fun e => e ▸ w5) id
      exact word_at hWm (good_of_word (q_TB_good hw).2) (hts w hw)
    · have h2 := hdd.2.2
      rw [h] at h2
      exact (Option.some.inj h2).symm
  have hrun := va_runV (p := p) (l := l) (g := F0 m pc arr ((as.map (q_cv G)).reverse ++ .ref (G.1 f 0) :: rest)) (As := as.map (q_cv G)) (b := G.1 f 0) (rest := rest) (Ts := q_TB) (e := e) (below := below) (meth := meth) (locs := locs) (cells := cells) (slots := slots) ⟨hx, hb, hml, hown, hts⟩ (hM G q hq) (bytes := q.2.1) (maxL := q.2.2.1) (ret := q.2.2.2) (n := n) (C := q.1.cls) ⟨hCB, hts _ w2, hts _ w3⟩ ⟨q_Pc_blind G _ S, hrecv, fun U hU hWm => ⟨rfl, hW.moved hWm.alike, by rw [hU]; exact hH, hof, q_E.go (l_S hS) hWm hU hE⟩⟩ rfl (by simp [hlen]) hsz rfl (lv_roomN hw) hdg ⟨hc, hsl⟩
  intro T hT X
  obtain ⟨v, st₀, t, T', L9, h0, X', hL9, e1, e2, ⟨⟨r, S', hv, hty, hp, hh, hw9⟩, hF⟩, st⟩ := hrun T hT X
  obtain ⟨x, rfl⟩ : ∃ x, r = some (.inl x) := hty
  cases hv
  obtain ⟨k1, k2, k3⟩ := vx_keep (A0 := l_A s) (A1 := q_A G) h0 e1 hS (fun q _ h => l_in C9 h) (fun q h => l_in C9 h) hL9 hF
  obtain ⟨t2, a1, b1⟩ := kk x S' T'.heap (locs ++ L9) hp (by rw [e1]; exact hh) k3 T' rfl X'
  exact ⟨t2, st t2 a1, b1⟩
set_option maxHeartbeats 1000000 in
/-- a call of a wrapper -/
theorem l_wcall (C : LM p s m meth c b L xs G) {idx n : Nat} {q : qM} {hh : List (Nat × Nat × Nat × Nat)} {post : Option qV → qSt → Prop} {as : List qV} (w1 : Cond.methodLink "BlockedCarsLaw" idx q.1 ∈ q_TB) (w2 : Cond.static q.1 ∈ q_TB) (w3 : Cond.codeWith q.1 q.2.1 q.2.2.1 q.2.2.2 hh ∈ q_TB) (w4 : Cond.initialized q.1.cls ∈ q_TB) (hdd : q.1.cls ≠ "java/lang/invoke/MethodHandle" ∧ q.1.cls ≠ "java/lang/invoke/VarHandle" ∧ (parseMethodDescriptor q.1.desc).map (fun d => d.parameters.length) = some n) (h150 : q.2.2.1 ≤ 150) (hlen : as.length = n) (hok : q_oks as) (hM : q_WM l 62 q hh as S post) (hH : q_H G S H) (hS : va_S (l_A s) s.heap H locs) (hsz : arr.size = 7) {rest : List Value} (hw : (rest.map fun v => v.category).sum ≤ 8) (hc : cells + 1 ≤ 601024) (hsl : slots + 6 ≤ 7293034) (hdg : decode code pc = .ok (.invokestatic idx, 3))
    (kk : ∀ v S' H1 locs1, post (some (.inl v)) S' → q_H G S' H1 → va_S (l_A s) s.heap H1 locs1 → W p l e room_1 s m #[Value.ref b] below meth c H1 locs1 (cells + 1) (slots + 6) (lw_Z below #[Value.ref b] s) (F0 m (pc + 3) arr (.int v :: rest))) :
    W p l e room_1 s m #[Value.ref b] below meth c H locs cells slots (lw_Z below #[Value.ref b] s) (F0 m pc arr ((as.map (q_cv G)).reverse ++ rest)) := by
  have C9 := C
  obtain ⟨hx, hb, hret, hml, hown, hts, hX, hbl, hlk, hW, hE, hXW, hG, hL⟩ := C
  have hCB : vx_CSW room_1 s #[Value.ref b] "BlockedCarsLaw" idx q.1 q.2.1 q.2.2.1 q.2.2.2 hh (q_wsW q hh) (q_rmx 62) 1 6 n := by
    refine ⟨⟨rfl, rfl, ?_, ?_, ?_, List.mem_cons_self⟩, hts _ w3, hts _ w4, ⟨hdd.1, hdd.2.1⟩, fun sig h => ?_, hts _ w1, hts _ w2⟩
    · show 62 + 1 ≤ 2048
      omega
    · show 8 + (q.2.2.1 + 11) + 200 * 62 ≤ 84000
      omega
    · intro w hw a' U hWm
      have hw : w ∈ q_TB := (List.mem_cons.mp hw).elim (fun e => e ▸ w3) id
      exact word_at hWm (good_of_word (q_TB_good hw).2) (hts w hw)
    · have h2 := hdd.2.2
      rw [h] at h2
      exact (Option.some.inj h2).symm
  have hrun := vx_runSX (p := p) (l := l) (g := F0 m pc arr ((as.map (q_cv G)).reverse ++ rest)) (As := as.map (q_cv G)) (rest := rest) (Ts := q_TB) (e := e) (below := below) (meth := meth) (locs := locs) (cells := cells) (slots := slots) (hh := hh) ⟨hx, hb, hml, hown, hts⟩ (hM G) (bytes := q.2.1) (maxL := q.2.2.1) (ret := q.2.2.2) (n := n) hCB ⟨q_PcX_blind G _ S, fun U hU hWm => ⟨⟨rfl, hW.moved hWm.alike, by rw [hU]; exact hH, hok, q_E.go (l_S hS) hWm hU hE⟩, hXW.warm hWm⟩⟩ rfl (by simp [hlen]) hsz rfl (lv_roomN hw) hdg ⟨hc, hsl⟩
  intro T hT X
  rcases hrun T hT X with ⟨v, st₀, t, T', L9, h0, X', hL9, e1, e2, ⟨⟨r, S', hv, hty, hp, hh, hw9⟩, hF⟩, st⟩ | ⟨q9, st₀, t, T', L9, E, ce, h0, X', hL9, e1, e2, ⟨⟨S', hp, hh, hw9⟩, hF⟩, hce, hcv, hcl, st9⟩
  · obtain ⟨x, rfl⟩ : ∃ x, r = some (.inl x) := hty
    cases hv
    obtain ⟨k1, k2, k3⟩ := vx_keep (A0 := l_A s) (A1 := q_A G) h0 e1 hS (fun q _ h => l_in C9 h) (fun q h => l_in C9 h) hL9 hF
    obtain ⟨t2, a1, b1⟩ := kk x S' T'.heap (locs ++ L9) hp (by rw [e1]; exact hh) k3 T' rfl X'
    exact ⟨t2, st t2 a1, b1⟩
  · exact hp.elim
end LB
