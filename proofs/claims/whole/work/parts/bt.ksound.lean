/-! The constructors' machine: its runs are the machine's -/
section KX
variable {p : Program} {l : Launch} {e : Env} {R : Room} {s : State} {m : MethodId} {args : Array Value} {below : List Frame} {meth : Method} {c : Code} {Q : State → Prop} {D : va_G} {base n0 : Nat} {cc : ByteArray} {nL : Nat} {own : String} {d : Nat} {isC : Bool} {P : List (Nat × Nat × Nat × Nat)} {cs : List (Nat × Int32)} {mc ms : Nat}
variable {pc : Nat} {ls : qLs} {st : List qV} {kh : List kC} {cells slots : Nat} {i : Instr} {len : Nat} {r : Option Nat × qLs × List qV × List kC × Nat × Nat}
theorem k_ss (Z : k_Cx p R s m args meth c D base n0 cc nL own d isC P cs mc ms) (hco : ∀ ci, ci < 11 → k_co ci) (haw : k_aw) (hd0 : 0 < d) (hw : q_w st ≤ 9) {o : kO} (ht : o.1 < 22) (hd : decode cc pc = .ok (i, len)) (he : (i, len) ∈ k_exp cs o pc) (hp : ∀ e ∈ k_pe o, e ∈ P) (hc : k_cko isC nL o = true) (h : k_step k_fd o ls st kh cells slots mc ms = some r) (hk : k_N p l e R s m args below meth c Q D base n0 nL (pc + len) r) : k_At p l e R s m args below meth c Q D base n0 nL pc ls st kh cells slots := by
  obtain ⟨tag, a, b, idx, z⟩ := o
  match tag, ht, he, hp, hc, h with
  | 0, _, he, hp, hc, h => exact k_s0 Z hd he h hk
  | 1, _, he, hp, hc, h => exact k_s1 Z hd he h hk
  | 2, _, he, hp, hc, h => exact k_s2 Z hd he h hk
  | 3, _, he, hp, hc, h => exact k_s3 Z hd he hc h hk
  | 4, _, he, hp, hc, h => exact k_s4 Z hd he hc h hk
  | 5, _, he, hp, hc, h => exact k_s5 Z hd he h hk
  | 6, _, he, hp, hc, h => exact k_s6 Z hd he h hk
  | 7, _, he, hp, hc, h => exact k_s7 Z hd he h hk
  | 8, _, he, hp, hc, h => exact k_s8 Z hd he h hk
  | 9, _, he, hp, hc, h => exact k_s9 Z hd he h hk
  | 10, _, he, hp, hc, h => exact k_s10 Z hco hd he hp hc h hk
  | 11, _, he, hp, hc, h => exact k_s11 Z haw hd he hc h hk
  | 12, _, he, hp, hc, h => exact k_s12 Z hd he hp hc h hk
  | 13, _, he, hp, hc, h => exact k_s13 Z haw hd he hp h hk
  | 14, _, he, hp, hc, h => exact k_s14 Z hco hd he hp hc h hk
  | 15, _, he, hp, hc, h => exact k_s15 Z hco hd he hp hc h hk
  | 16, _, he, hp, hc, h => exact k_s16 Z hd he h hk
  | 17, _, he, hp, hc, h => exact k_s17 Z hd he h hk
  | 18, _, he, hp, hc, h => exact k_s18 Z hd he h hk
  | 19, _, he, hp, hc, h => exact k_s19 Z hd he hc h hk
  | 20, _, he, hp, hc, h => exact k_s20 Z hd he h hk
  | 21, _, he, hp, hc, h => exact k_s21 Z haw hd0 hw hd he hp h hk
  | n + 22, ht, _, _, _, _ => exact absurd (show n + 22 < 22 from ht) (by omega)
theorem k_ckl_c {o : kO} {os : List (Nat × kO)} (h : k_ckl cc P cs isC nL ((pc, o) :: os) = true) : ∃ i len, decode cc pc = .ok (i, len) ∧ (i, len) ∈ k_exp cs o pc ∧ (∀ e ∈ k_pe o, e ∈ P) ∧ k_cko isC nL o = true ∧ (∀ x r', os = x :: r' → x.1 = pc + len) ∧ k_ckl cc P cs isC nL os = true := by
  unfold k_ckl at h
  rw [Bool.and_eq_true] at h
  obtain ⟨h1, h2⟩ := h
  split at h1
  · rename_i i len hd
    rw [Bool.and_eq_true, Bool.and_eq_true, Bool.and_eq_true] at h1
    obtain ⟨a1, a2, a3, a4⟩ := h1
    obtain ⟨x, hx1, hx2⟩ := List.any_eq_true.mp a1
    have hx2 := of_decide_eq_true hx2
    subst hx2
    refine ⟨i, len, hd, hx1, fun e he => of_decide_eq_true (List.all_eq_true.mp a2 e he), a3, fun x r' hr => ?_, h2⟩
    subst hr
    exact of_decide_eq_true a4
  · cases h1
theorem k_from_ck {t : Nat} : ∀ {code : List (Nat × kO)}, k_ckl cc P cs isC nL code = true → k_ckl cc P cs isC nL (k_from code t) = true
  | [], h => h
  | x :: r, h => by
    unfold k_from
    split
    · exact h
    · obtain ⟨x1, x2⟩ := x
      obtain ⟨i, len, -, -, -, -, -, h2⟩ := k_ckl_c h
      exact k_from_ck h2
theorem k_from_hd {t : Nat} : ∀ {code : List (Nat × kO)}, k_from code t = [] ∨ ∃ o os, k_from code t = (t, o) :: os
  | [] => Or.inl rfl
  | x :: r => by
    unfold k_from
    split
    · rename_i h
      obtain ⟨x1, x2⟩ := x
      have h : x1 = t := h
      subst h
      exact Or.inr ⟨x2, r, rfl⟩
    · exact k_from_hd
def k_rm (d mc ms : Nat) : Room := { frames := d, cells := mc, slots := ms, locals := 200 * d }
def k_Pc (D : va_G) (base : Nat) (as : List qV) (kh : List kC) : Array Value → State → Prop := fun v U => v = (as.map (q_cv (gB D base))).toArray ∧ va_K D vwCl [] U ∧ k_X U ∧ U.heap.size = base + kh.length ∧ ∃ cid, k_HH D base cid U kh U.heap
theorem k_Pc_blind (as : List qV) : FrameBlind (k_Pc D base as kh) := fun a U g mk h => ⟨h.1, va_K.moved (u := U) (U := U.calling g mk a) (Vm.Alike.refl U.vm) h.2.1, k_X.same (s := U) rfl h.2.2.1, h.2.2.2.1, by
  obtain ⟨cid, q⟩ := h.2.2.2.2
  exact ⟨cid, k_HH.moved (u := U) (U := U.calling g mk a) (Vm.Alike.refl U.vm) q⟩⟩
def k_Qc (D : va_G) (base : Nat) (kh' : List kC) : Array Value → State → Outcome → State → Prop := fun _ st o t => (o = .returned none ∧ ∃ cid, k_HH D base cid t kh' t.heap) ∧ va_F (k_A base) st t
def k_ok (k : Nat) : Prop := ∃ q M P cs isC, q_mt k = some q ∧ k_mt k = some M ∧ plainName q.1.cls = true ∧ q.2.2.1 = M.2.1 ∧ q.2.2.2 = none ∧ k_ckl q.2.1 P cs isC M.2.1 M.1 = true ∧ (∀ e ∈ P, k_pok q.1.cls e) ∧ (∀ e ∈ cs, Cond.constant q.1.cls e.1 e.2 ∈ q_TB) ∧ (isC = true → q.1.name = "<init>") ∧ (∃ o os, M.1 = (0, o) :: os)
theorem k_CB {idx n d' mc9 ms9 : Nat} {q : qM} (hts : ∀ w ∈ q_TB, w.before args s = true) (hR : R.frames = d' + 1 ∧ R.locals = 200 * (d' + 1)) (w1 : Cond.methodLink own idx q.1 ∈ q_TB) (w3 : Cond.initialized q.1.cls ∈ q_TB) (w4 : Cond.code q.1 q.2.1 q.2.2.1 q.2.2.2 ∈ q_TB)
    (hd : q.1.cls ≠ "java/lang/invoke/MethodHandle" ∧ q.1.cls ≠ "java/lang/invoke/VarHandle" ∧ (parseMethodDescriptor q.1.desc).map (fun d => d.parameters.length) = some n) (h150 : q.2.2.1 ≤ 150) : CallB R s args own idx q.1 q.2.1 q.2.2.1 q.2.2.2 (q_ws q) (k_rm d' mc9 ms9) mc9 ms9 n := by
  refine ⟨rfl, rfl, ?_, ?_, ?_, List.mem_cons_self, hts _ w4, hts _ w3, ⟨hd.1, hd.2.1⟩, fun sig h => ?_, hts _ w1⟩
  · show d' + 1 ≤ R.frames
    omega
  · show 8 + (q.2.2.1 + 11) + 200 * d' ≤ R.locals
    omega
  · intro w hw a' U hWm
    have hw : w ∈ q_TB := (List.mem_cons.mp hw).elim (fun e => e ▸ w4) id
    exact word_at hWm (good_of_word (q_TB_good hw).2) (hts w hw)
  · have h2 := hd.2.2
    rw [h] at h2
    exact (Option.some.inj h2).symm
theorem k_CN {idx n d' mc9 ms9 : Nat} {q : qM} (hts : ∀ w ∈ q_TB, w.before args s = true) (hR : R.frames = d' + 1 ∧ R.locals = 200 * (d' + 1)) (w1 : va_Nw (.methodLinkNest own idx q.1 "BlockedCars") s) (w3 : Cond.initialized q.1.cls ∈ q_TB) (w4 : Cond.code q.1 q.2.1 q.2.2.1 q.2.2.2 ∈ q_TB)
    (hd : q.1.cls ≠ "java/lang/invoke/MethodHandle" ∧ q.1.cls ≠ "java/lang/invoke/VarHandle" ∧ (parseMethodDescriptor q.1.desc).map (fun d => d.parameters.length) = some n) (h150 : q.2.2.1 ≤ 150) : va_CN R s args own idx q.1 "BlockedCars" q.2.1 q.2.2.1 q.2.2.2 (q_ws q) (k_rm d' mc9 ms9) mc9 ms9 n := by
  refine ⟨⟨rfl, rfl, ?_, ?_, ?_, List.mem_cons_self⟩, hts _ w4, hts _ w3, ⟨hd.1, hd.2.1⟩, fun sig h => ?_, va_Nw.use rfl w1⟩
  · show d' + 1 ≤ R.frames
    omega
  · show 8 + (q.2.2.1 + 11) + 200 * d' ≤ R.locals
    omega
  · intro w hw a' U hWm
    have hw : w ∈ q_TB := (List.mem_cons.mp hw).elim (fun e => e ▸ w4) id
    exact word_at hWm (good_of_word (q_TB_good hw).2) (hts w hw)
  · have h2 := hd.2.2
    rw [h] at h2
    exact (Option.some.inj h2).symm
theorem k_after {H : Heap} {locs : List Loc} {arr : Array Slot} {st0 rest : List Value} {a : Array Value} {kh1 : List kC} {mc9 ms9 : Nat} (hr : va_Run p l e R s m args below meth c H locs cells slots mc9 ms9 (F0 m pc arr st0) rest (k_Qc D base kh1 a) (k_A base)) (hS : va_S (k_A base) s.heap H locs)
    (kk : ∀ H1 locs1 cid1, k_HH D base cid1 s kh1 H1 → va_S (k_A base) s.heap H1 locs1 → W p l e R s m args below meth c H1 locs1 (cells + mc9) (slots + ms9) Q (F0 m (pc + 3) arr rest)) : W p l e R s m args below meth c H locs cells slots Q (F0 m pc arr st0) := by
  intro T hT X
  obtain ⟨v, st₀, t, T', L, h0, X', hL, e1, e2, ⟨⟨hv, cid1, hHH⟩, hF⟩, st⟩ := hr T hT X
  cases hv
  obtain ⟨k1, k2, k3⟩ := vx_keep (A0 := k_A base) (A1 := k_A base) h0 e1 hS (fun q _ h => h) (fun q h => h) hL hF
  have hal : t.vm.Alike s.vm := by
    have := X'.warmed.alike.symm
    rw [e2] at this
    exact this
  obtain ⟨t2, a1, b1⟩ := kk T'.heap (locs ++ L) cid1 (by rw [e1]; exact hHH.moved hal) k3 T' rfl X'
  exact ⟨t2, st t2 a1, b1⟩
end KX
theorem k_ev_nil {fd : Nat → List Nat} {rc : Nat → Nat} {mt : Nat → Option kM} {f d : Nat} {code : List (Nat × kO)} {ls : qLs} {st : List qV} {kh : List kC} {cells slots mc ms : Nat} : k_ev fd rc mt f d code [] ls st kh cells slots mc ms = none := by
  cases f <;> rfl
