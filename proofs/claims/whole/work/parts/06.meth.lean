def q_ent : List qV → qLs
  | [] => []
  | .inl x :: r => some (.inl x) :: q_ent r
  | .inr (.inl x) :: r => some (.inr (.inl x)) :: none :: q_ent r
  | .inr (.inr x) :: r => some (.inr (.inr x)) :: q_ent r
def q_pad : Nat → qLs → qLs
  | 0, _ => []
  | n + 1, [] => none :: q_pad n []
  | n + 1, x :: xs => x :: q_pad n xs
def q_msk : List Bool → qLs → qLs
  | true :: m, x :: xs => x :: q_msk m xs
  | false :: m, _ :: xs => none :: q_msk m xs
  | _, _ => []
def q_cut : List (Nat × List Bool) → Nat → Option (List Bool)
  | [], _ => none
  | (c, m) :: r, b => if b = c then some m else q_cut r b
def q_nth : List (List qO) → Nat → List qO
  | [], _ => []
  | x :: _, 0 => x
  | _ :: xs, n + 1 => q_nth xs n
def q_vc (mt : Nat → Option qM) (l : Launch) (d rt : Nat) (RET : Option qV → qSt → Prop) (code : List (List qO)) (cuts : List (Nat × List Bool)) (AT : Nat → qLs → List qV → qSt → Prop) : Nat → Nat → qLs → List qV → qSt → Prop
  | 0, b, ls, st, S => AT b ls st S
  | n + 1, b, ls, st, S => match q_cut cuts b with
    | some cm => AT b (q_msk cm ls) st S
    | none => q_run mt l d rt (fun b ls st S => q_vc mt l d rt RET code cuts AT n b ls st S) RET (q_nth code b) ls st S
theorem q_run_mono {mt : Nat → Option qM} {l : Launch} {d rt : Nat} {J J' : Nat → qLs → List qV → qSt → Prop} {RET : Option qV → qSt → Prop} (hJ : ∀ b ls st S, J b ls st S → J' b ls st S) : ∀ {os : List qO} {ls : qLs} {st : List qV} {S : qSt}, q_run mt l d rt J RET os ls st S → q_run mt l d rt J' RET os ls st S
  | [], _, _, _, h => h
  | o :: os, _, _, _, h => q_mono hJ (fun _ _ _ q => q_run_mono hJ q) h
theorem q_msk_get : ∀ {mk : List Bool} {ls : qLs} {j : Nat} {v : qV}, q_get (q_msk mk ls) j = some v → q_get ls j = some v
  | true :: m, x :: xs, 0, v, h => h
  | true :: m, x :: xs, j + 1, v, h => q_msk_get (mk := m) (ls := xs) h
  | false :: m, x :: xs, 0, v, h => by cases h
  | false :: m, x :: xs, j + 1, v, h => q_msk_get (mk := m) (ls := xs) h
  | [], _, _, _, h => by cases h
  | true :: _, [], _, _, h => by cases h
  | false :: _, [], _, _, h => by cases h
theorem q_get_iff : ∀ {L : qLs} {w : qV}, some w ∈ L ↔ ∃ j, q_get L j = some w
  | [], w => by simp [q_get]
  | x :: xs, w => by
    constructor
    · intro h
      rcases List.mem_cons.mp h with e | e
      · exact ⟨0, e.symm⟩
      · obtain ⟨j, hj⟩ := q_get_iff.mp e
        exact ⟨j + 1, hj⟩
    · rintro ⟨j, hj⟩
      exact q_get_mem hj
theorem q_At_sub {p : Program} {l : Launch} {e : Env} {R : Room} {s : State} {m : MethodId} {args : Array Value} {below : List Frame} {meth : Method} {c : Code} {Q : State → Prop} {G : qG} {nL pc : Nat} {ls ls' : qLs} {st : List qV} {S : qSt} (hs : ∀ j v, q_get ls' j = some v → q_get ls j = some v)
    (h : q_At p l e R s m args below meth c Q G nL pc ls' st S) : q_At p l e R s m args below meth c Q G nL pc ls st S := by
  intro H locs arr hH hS hl hol hos
  refine h H locs arr hH hS ⟨hl.1, hl.2.1, fun q hq => ?_⟩ (fun v hv => ?_) hos
  · obtain ⟨j, v, hv, rfl⟩ := q_enc_mem.mp hq
    exact hl.2.2 _ (q_enc_mem.mpr ⟨j, v, hs j v hv, rfl⟩)
  · obtain ⟨j, hj⟩ := q_get_iff.mp hv
    exact hol v (q_get_mem (hs j v hj))
/-- the method's code is what the ops say -/
def q_mok (mt : Nat → Option qM) (k : Nat) (own : String) (K : qK) (B : List Nat) (code : List (List qO)) (rt nL : Nat) : Prop := ∃ q, mt k = some q ∧ q.1.cls = own ∧ plainName q.1.cls = true ∧ q.2.2.1 = nL ∧ q_ckc mt q.2.1 K B q.2.2.1 q.2.2.2 code = true ∧ q_rtok rt q.2.2.2 = true ∧ q_kok mt own K ∧ q_bp B 0 = 0 ∧ 0 < code.length
theorem q_nth_getD : ∀ (code : List (List qO)) (b : Nat), q_nth code b = code.getD b []
  | [], b => by simp [q_nth]
  | x :: xs, 0 => rfl
  | x :: xs, b + 1 => by simp only [q_nth, q_nth_getD xs b]; simp
theorem q_ent_in {G : qG} : ∀ {as : List qV} {k : Nat} {q : Nat × Value}, q ∈ q_enc G k (q_ent as) → q ∈ lv_args k (as.map (q_cv G))
  | [], k, q, h => by cases h
  | .inl x :: r, k, q, h => by
    rcases List.mem_cons.mp h with rfl | h
    · exact List.mem_cons_self
    · exact List.mem_cons_of_mem _ (q_ent_in h)
  | .inr (.inl x) :: r, k, q, h => by
    rcases List.mem_cons.mp h with rfl | h
    · exact List.mem_cons_self
    · exact List.mem_cons_of_mem _ (q_ent_in (show q ∈ q_enc G (k + 2) (q_ent r) from h))
  | .inr (.inr x) :: r, k, q, h => by
    rcases List.mem_cons.mp h with rfl | h
    · exact List.mem_cons_self
    · exact List.mem_cons_of_mem _ (q_ent_in h)
theorem q_pad_get : ∀ {n : Nat} {L : qLs} {j : Nat} {v : qV}, q_get (q_pad n L) j = some v → q_get L j = some v
  | 0, L, j, v, h => by cases h
  | n + 1, [], 0, v, h => by cases h
  | n + 1, [], j + 1, v, h => by have := q_pad_get (n := n) (L := []) (j := j) h; cases this
  | n + 1, x :: xs, 0, v, h => h
  | n + 1, x :: xs, j + 1, v, h => q_pad_get (n := n) (L := xs) (j := j) h
theorem q_ent_ok : ∀ {as : List qV}, q_oks as → q_okl (q_ent as)
  | [], h, v, hv => by cases hv
  | .inl x :: r, h, v, hv => by
    rcases List.mem_cons.mp hv with e | hv
    · cases e; trivial
    · exact q_ent_ok (q_okD h) v hv
  | .inr (.inl x) :: r, h, v, hv => by
    rcases List.mem_cons.mp hv with e | hv
    · cases e; trivial
    · rcases List.mem_cons.mp hv with e | hv
      · cases e
      · exact q_ent_ok (q_okD h) v hv
  | .inr (.inr x) :: r, h, v, hv => by
    rcases List.mem_cons.mp hv with e | hv
    · cases e; exact q_okH h
    · exact q_ent_ok (q_okD h) v hv
theorem q_ent_len {G : qG} : ∀ {as : List qV}, (lg_sl (as.map (q_cv G))).length = (q_ent as).length
  | [] => rfl
  | .inl x :: r => by
    have := q_ent_len (G := G) (as := r)
    unfold lg_sl at *
    simp only [List.map_cons, List.flatMap_cons, List.length_append, q_ent, List.length_cons, this]
    simp [q_cv, Value.category]
    omega
  | .inr (.inl x) :: r => by
    have := q_ent_len (G := G) (as := r)
    unfold lg_sl at *
    simp only [List.map_cons, List.flatMap_cons, List.length_append, q_ent, List.length_cons, this]
    simp [q_cv, Value.category]
    omega
  | .inr (.inr x) :: r => by
    have := q_ent_len (G := G) (as := r)
    unfold lg_sl at *
    simp only [List.map_cons, List.flatMap_cons, List.length_append, q_ent, List.length_cons, this]
    simp [q_cv, Value.category]
    omega
/-- A METHOD'S CONTRACT out of its verification conditions: AT is any predicate that the steps reach -/
theorem q_meth {mt : Nat → Option qM} {l : Launch} {d k rt nL : Nat} {own : String} {K : qK} {B : List Nat} {code : List (List qO)} (hok : q_mok mt k own K B code rt nL) (hfo : ∀ f, q_fo f) {as : List qV} {S : qSt} {post : Option qV → qSt → Prop} (hsz : (q_ent as).length ≤ nL)
    (h : ∀ AT : Nat → qLs → List qV → qSt → Prop, (∀ n cuts b ls st S, q_run mt l d rt (q_vc mt l d rt post code cuts AT n) post (q_nth code b) ls st S → AT b ls st S) → AT 0 (q_pad nL (q_ent as)) [] S) : q_Met mt l d k rt as S post := by
  intro G q hq
  obtain ⟨q', hq', hown, hpl, hnL, hck, hrt, hK, hB, h0⟩ := hok
  cases hq.symm.trans hq'
  refine Met.ofW (cc := q.2.1) (maxL := q.2.2.1) (ret := q.2.2.2) hpl rfl ?_
  intro p e s m args below meth c s₁ Bd hml hv
  obtain ⟨rfl, hW, hH, hos, hE⟩ := hv
  have hts := atoms_spec (ws := q_ws q) Bd.pre
  have hown' : s.vm.findClass own = some m.cls := hown ▸ findClass_of_methodNamed Bd.named
  have Z : q_Sx mt p l e (headSpec (q_ws q) (q_rm d)).room s m (as.map (q_cv G)).toArray below meth c (MQ below (q_Qc G rt post) (as.map (q_cv G)).toArray s 0 0 (q_A G)) G q.2.1 nL own d K q.2.2.2 rt post 0 0 :=
    ⟨⟨Bd.exec, Bd.bytes, hml.trans hnL, hown', fun w hw => hts w (List.mem_cons_of_mem _ hw), hW, ⟨rfl, rfl⟩, hfo, hE⟩, hK, Bd.returns, Bd.notSynchronized, fun _ _ _ h => h⟩
  have hblk : ∀ b ls st S, q_run mt l d rt (fun b ls st S => q_At p l e (headSpec (q_ws q) (q_rm d)).room s m (as.map (q_cv G)).toArray below meth c (MQ below (q_Qc G rt post) (as.map (q_cv G)).toArray s 0 0 (q_A G)) G nL (q_bp B b) ls st S) post (q_nth code b) ls st S →
      q_At p l e (headSpec (q_ws q) (q_rm d)).room s m (as.map (q_cv G)).toArray below meth c (MQ below (q_Qc G rt post) (as.map (q_cv G)).toArray s 0 0 (q_A G)) G nL (q_bp B b) ls st S := by
    intro b ls st S hr
    refine q_block Z hrt ?_ hr
    rw [q_nth_getD]
    by_cases hb : b < code.length
    · have := List.all_eq_true.mp hck b (List.mem_range.mpr hb)
      rw [hnL] at this
      exact this
    · rw [List.getD_eq_getElem?_getD, List.getElem?_eq_none (by omega)]
      rfl
  have hvc : ∀ n cuts b ls st S, q_vc mt l d rt post code cuts (fun b ls st S => q_At p l e (headSpec (q_ws q) (q_rm d)).room s m (as.map (q_cv G)).toArray below meth c (MQ below (q_Qc G rt post) (as.map (q_cv G)).toArray s 0 0 (q_A G)) G nL (q_bp B b) ls st S) n b ls st S →
      q_At p l e (headSpec (q_ws q) (q_rm d)).room s m (as.map (q_cv G)).toArray below meth c (MQ below (q_Qc G rt post) (as.map (q_cv G)).toArray s 0 0 (q_A G)) G nL (q_bp B b) ls st S := by
    intro n cuts
    induction n with
    | zero => intro b ls st S hr; exact hr
    | succ n ih =>
      intro b ls st S hr
      rw [q_vc] at hr
      cases hcut : q_cut cuts b with
      | some cm =>
        rw [hcut] at hr
        exact q_At_sub (fun j v hj => q_msk_get hj) hr
      | none =>
        rw [hcut] at hr
        exact hblk b ls st S (q_run_mono (fun b ls st S hr => ih b ls st S hr) hr)
  have key := h _ (fun n cuts b ls st S hr => hblk b ls st S (q_run_mono (fun b ls st S hr => hvc n cuts b ls st S hr) hr))
  rw [hB] at key
  have hl := lv_entry (as.map (q_cv G)) (n := q.2.2.1) (by rw [q_ent_len, hnL]; exact hsz)
  rw [lg_entry_eq]
  refine key s.heap [] _ hH va_S.rf ⟨?_, hl.2.1, fun x hx => hl.2.2 x ?_⟩ (fun v hv => ?_) (fun v hv => by cases hv)
  · rw [hl.1, hnL]
  · obtain ⟨j, v, hj, rfl⟩ := q_enc_mem.mp hx
    exact q_ent_in (q_enc_mem.mpr ⟨j, v, q_pad_get hj, rfl⟩)
  · obtain ⟨j, hj⟩ := q_get_iff.mp hv
    exact q_ent_ok hos v (q_get_mem (q_pad_get hj))
def q_isc (cuts : List (Nat × List Bool)) (b : Nat) : Bool := match cuts with
  | [] => false
  | (c, _) :: r => if b = c then true else q_isc r b
def q_mk (cuts : List (Nat × List Bool)) (b : Nat) : List Bool := match cuts with
  | [] => []
  | (c, m) :: r => if b = c then m else q_mk r b
theorem q_cut_no : ∀ {cuts : List (Nat × List Bool)} {b : Nat}, q_isc cuts b = false → q_cut cuts b = none
  | [], b, h => rfl
  | (c, m) :: r, b, h => by
    unfold q_isc at h
    unfold q_cut
    by_cases e : b = c
    · rw [if_pos e] at h; cases h
    · rw [if_neg e] at h ⊢
      exact q_cut_no h
theorem q_cut_yes : ∀ {cuts : List (Nat × List Bool)} {b : Nat}, q_isc cuts b = true → q_cut cuts b = some (q_mk cuts b)
  | [], b, h => by cases h
  | (c, m) :: r, b, h => by
    unfold q_isc at h
    unfold q_cut q_mk
    by_cases e : b = c
    · rw [if_pos e, if_pos e]
    · rw [if_neg e] at h ⊢
      rw [if_neg e]
      exact q_cut_yes h
theorem q_vu1 (mt : Nat → Option qM) (l : Launch) (d rt : Nat) (RET : Option qV → qSt → Prop) (code : List (List qO)) (cuts : List (Nat × List Bool)) (AT : Nat → qLs → List qV → qSt → Prop) (n b : Nat) (ls : qLs) (st : List qV) (S : qSt) (h : q_isc cuts b = false) :
    q_vc mt l d rt RET code cuts AT (n + 1) b ls st S = q_run mt l d rt (q_vc mt l d rt RET code cuts AT n) RET (q_nth code b) ls st S := by
  rw [q_vc, q_cut_no h]
theorem q_vu2 (mt : Nat → Option qM) (l : Launch) (d rt : Nat) (RET : Option qV → qSt → Prop) (code : List (List qO)) (cuts : List (Nat × List Bool)) (AT : Nat → qLs → List qV → qSt → Prop) (n b : Nat) (ls : qLs) (st : List qV) (S : qSt) (h : q_isc cuts b = true) :
    q_vc mt l d rt RET code cuts AT (n + 1) b ls st S = AT b (q_msk (q_mk cuts b) ls) st S := by
  rw [q_vc, q_cut_yes h]
