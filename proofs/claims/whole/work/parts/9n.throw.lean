/-! Methods that throw: one object more, the store as it was left -/
def q_xws : List Cond := [.declares (Bundle.initS "java/lang/RuntimeException"), .declares (Bundle.initS "java/lang/Exception"), .declares (Bundle.initS Bundle.tN), .castable "java/lang/IllegalArgumentException" "java/lang/IllegalArgumentException", .castable "java/util/NoSuchElementException" "java/util/NoSuchElementException"]
def q_XW (U : State) : Prop := (∀ w ∈ q_xws, va_Nw w U) ∧ va_Nc "java/lang/IllegalArgumentException" "java/util/NoSuchElementException" U
theorem q_XW.warm {s U : State} (hW : s.WarmedH U.vm) (h : q_XW s) : q_XW U := by
  refine ⟨fun w hw => ?_, h.2.moved hW.alike⟩
  have := h.1 w hw
  simp only [q_xws, List.mem_cons, List.not_mem_nil, or_false] at hw
  rcases hw with e | e | e | e | e <;> subst e
  · exact va_Nw.warmD hW this
  · exact va_Nw.warmD hW this
  · exact va_Nw.warmD hW this
  · exact va_Nw.warmC hW this
  · exact va_Nw.warmC hW this
theorem q_XW.same {s U : State} (hv : s.vm = U.vm) (h : q_XW s) : q_XW U := by
  refine ⟨fun w hw => ?_, h.2.moved (by rw [hv]; exact Vm.Alike.refl _)⟩
  have := h.1 w hw
  simp only [q_xws, List.mem_cons, List.not_mem_nil, or_false] at hw
  rcases hw with e | e | e | e | e <;> subst e <;> exact va_Nw.same rfl hv this
def q_rmx (d : Nat) : Room := { frames := d, cells := 1, slots := 6, locals := 200 * d }
def q_Xc (G : qG) (xp : String → qSt → Prop) : String → State → State → Prop := fun E st t => (∃ S', xp E S' ∧ q_H G S' t.heap ∧ q_W G t) ∧ va_F (q_A G) st t
def q_no : Option qV → qSt → Prop := fun _ _ => False
def q_PcX (G : qG) (as : List qV) (S : qSt) : Array Value → State → Prop := fun v U => q_Pc G as S v U ∧ q_XW U
theorem q_PcX_blind (G : qG) (as : List qV) (S : qSt) : FrameBlind (q_PcX G as S) := fun a U g mk h => ⟨q_Pc_blind G as S a U g mk h.1, q_XW.same (s := U) rfl h.2⟩
/-- method number k throws, from this store with these arguments -/
def q_Thr (mt : Nat → Option qM) (l : Launch) (d k rt : Nat) (as : List qV) (S : qSt) (xp : String → qSt → Prop) : Prop :=
  ∀ (G : qG) (q : qM), mt k = some q → vx_Met l q.1 (q_ws q) (q_rmx d) (q_PcX G as S) (q_Qc G rt q_no) (q_Xc G xp) 1 6 (q_A G)
/-- what is known inside of such a method -/
def q_Tx (mt : Nat → Option qM) (p : Program) (l : Launch) (e : Env) (R : Room) (s : State) (m : MethodId) (args : Array Value) (below : List Frame) (meth : Method) (c : Code) (G : qG) (cc : ByteArray) (nL : Nat) (own : String) (d : Nat) (K : qK) (ret : Option FieldType) (rt : Nat) (xp : String → qSt → Prop) : Prop :=
  q_Sx mt p l e R s m args below meth c (vx_MQ below (q_Qc G rt q_no) (q_Xc G xp) args s 1 6 (q_A G)) G cc nL own d K ret rt q_no 1 6 ∧ (R.cells = 1 ∧ R.slots = 6) ∧ (∀ x ∈ c.exceptionTable.toList, False) ∧ q_XW s
theorem q_methT {mt : Nat → Option qM} {l : Launch} {d k rt nL : Nat} {own : String} {K : qK} {B : List Nat} {code : List (List qO)} (hok : q_mok mt k own K B code rt nL) (hfo : ∀ f, q_fo f) {as : List qV} {S : qSt} {xp : String → qSt → Prop} (hsz : (q_ent as).length ≤ nL)
    (X : Nat → qLs → List qV → qSt → Prop)
    (hX : ∀ (G : qG) (q : qM) p e R s m args below meth c, mt k = some q → q_Tx mt p l e R s m args below meth c G q.2.1 nL own d K q.2.2.2 rt xp → ∀ b ls st S, q_ckb mt q.2.1 K B nL q.2.2.2 (q_bp B b) (q_nth code b) = true → X b ls st S → q_At p l e R s m args below meth c (vx_MQ below (q_Qc G rt q_no) (q_Xc G xp) args s 1 6 (q_A G)) G nL (q_bp B b) ls st S)
    (h : ∀ AT : Nat → qLs → List qV → qSt → Prop, (∀ n cuts b ls st S, q_run mt l d rt (q_vc mt l d rt q_no code cuts AT n) q_no (q_nth code b) ls st S → AT b ls st S) → (∀ b ls st S, X b ls st S → AT b ls st S) → AT 0 (q_pad nL (q_ent as)) [] S) : q_Thr mt l d k rt as S xp := by
  intro G q hq
  obtain ⟨q', hq', hown, hpl, hnL, hck, hrt, hK, hB, h0⟩ := hok
  cases hq.symm.trans hq'
  refine vx_ofW (cc := q.2.1) (maxL := q.2.2.1) (ret := q.2.2.2) hpl rfl ?_
  intro p e s m args below meth c s₁ Bd hml htab hv
  obtain ⟨⟨rfl, hW, hH, hos, hE⟩, hXW⟩ := hv
  have hts := atoms_spec (ws := q_ws q) Bd.pre
  have hown' : s.vm.findClass own = some m.cls := hown ▸ findClass_of_methodNamed Bd.named
  have Z : q_Sx mt p l e (headSpec (q_ws q) (q_rmx d)).room s m (as.map (q_cv G)).toArray below meth c (vx_MQ below (q_Qc G rt q_no) (q_Xc G xp) (as.map (q_cv G)).toArray s 1 6 (q_A G)) G q.2.1 nL own d K q.2.2.2 rt q_no 1 6 :=
    ⟨⟨Bd.exec, Bd.bytes, hml.trans hnL, hown', fun w hw => hts w (List.mem_cons_of_mem _ hw), hW, ⟨rfl, rfl⟩, hfo, hE⟩, hK, Bd.returns, Bd.notSynchronized, fun H locs g hw => W.widen (Nat.zero_le _) (Nat.zero_le _) (vx_ret hw)⟩
  have hckb : ∀ b, q_ckb mt q.2.1 K B nL q.2.2.2 (q_bp B b) (q_nth code b) = true := fun b => by
    rw [q_nth_getD]
    by_cases hb : b < code.length
    · have := List.all_eq_true.mp hck b (List.mem_range.mpr hb)
      rw [hnL] at this
      exact this
    · rw [List.getD_eq_getElem?_getD, List.getElem?_eq_none (by omega)]
      rfl
  have hblk : ∀ b ls st S, q_run mt l d rt (fun b ls st S => q_At p l e (headSpec (q_ws q) (q_rmx d)).room s m (as.map (q_cv G)).toArray below meth c (vx_MQ below (q_Qc G rt q_no) (q_Xc G xp) (as.map (q_cv G)).toArray s 1 6 (q_A G)) G nL (q_bp B b) ls st S) q_no (q_nth code b) ls st S →
      q_At p l e (headSpec (q_ws q) (q_rmx d)).room s m (as.map (q_cv G)).toArray below meth c (vx_MQ below (q_Qc G rt q_no) (q_Xc G xp) (as.map (q_cv G)).toArray s 1 6 (q_A G)) G nL (q_bp B b) ls st S := fun b ls st S hr => q_block Z hrt (hckb b) hr
  have hvc : ∀ n cuts b ls st S, q_vc mt l d rt q_no code cuts (fun b ls st S => q_At p l e (headSpec (q_ws q) (q_rmx d)).room s m (as.map (q_cv G)).toArray below meth c (vx_MQ below (q_Qc G rt q_no) (q_Xc G xp) (as.map (q_cv G)).toArray s 1 6 (q_A G)) G nL (q_bp B b) ls st S) n b ls st S →
      q_At p l e (headSpec (q_ws q) (q_rmx d)).room s m (as.map (q_cv G)).toArray below meth c (vx_MQ below (q_Qc G rt q_no) (q_Xc G xp) (as.map (q_cv G)).toArray s 1 6 (q_A G)) G nL (q_bp B b) ls st S := by
    intro n cuts
    induction n with
    | zero => intro b ls st S hr; exact hr
    | succ n ih =>
      intro b ls st S hr
      rw [q_vc] at hr
      cases hcut : q_cut cuts b with
      | some cm =>
        rw [hcut] at hr
        exact q_At_sub (fun j v hj => q_msk_get hj) hr
      | none =>
        rw [hcut] at hr
        exact hblk b ls st S (q_run_mono (fun b ls st S hr => ih b ls st S hr) hr)
  have key := h _ (fun n cuts b ls st S hr => hblk b ls st S (q_run_mono (fun b ls st S hr => hvc n cuts b ls st S hr) hr)) (fun b ls st S hx => hX G q p e _ s m _ below meth c hq ⟨Z, ⟨rfl, rfl⟩, htab, hXW⟩ b ls st S (hckb b) hx)
  rw [hB] at key
  have hl := lv_entry (as.map (q_cv G)) (n := q.2.2.1) (by rw [q_ent_len, hnL]; exact hsz)
  rw [lg_entry_eq]
  refine key s.heap [] _ hH va_S.rf ⟨?_, hl.2.1, fun x hx => hl.2.2 x ?_⟩ (fun v hv => ?_) (fun v hv => by cases hv)
  · rw [hl.1, hnL]
  · obtain ⟨j, v, hj, rfl⟩ := q_enc_mem.mp hx
    exact q_ent_in (q_enc_mem.mpr ⟨j, v, q_pad_get hj, rfl⟩)
  · obtain ⟨j, hj⟩ := q_get_iff.mp hv
    exact q_ent_ok hos v (q_get_mem (q_pad_get hj))
