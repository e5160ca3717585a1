/-! The search's graph: stands, moves, who has left -/
def inn (P : Nat → List Nat) (x : Nat) : Prop := (lnof P x).isSome = true
theorem inn_ex {P : Nat → List Nat} {x : Nat} (h : inn P x) : ∃ k, lnof P x = some k := by
  unfold inn at h
  cases e : lnof P x with
  | none => rw [e] at h; cases h
  | some k => exact ⟨k, rfl⟩
theorem inn_mem {P : Nat → List Nat} {x k : Nat} (hk : k < 3) (h : x ∈ P k) : inn P x := by
  unfold inn
  cases e : lnof P x with
  | none => exact absurd h (lnof_none3 e hk)
  | some k => rfl
theorem inn_lt {Y : YD} {P : Nat → List Nat} (hP : p_ok Y P) {x : Nat} (h : inn P x) : x < Y 1 0 := by
  obtain ⟨k, hk⟩ := inn_ex h
  exact hP.2.2.1 k x (lnof_lt hk).2
theorem inn_isin {P : Nat → List Nat} {x : Nat} : isin P x = true ↔ inn P x := by
  unfold isin inn
  rw [decide_eq_true_eq]
  constructor
  · intro h
    rcases h with h | h | h
    · exact inn_mem (k := 0) (by decide) h
    · exact inn_mem (k := 1) (by decide) h
    · exact inn_mem (k := 2) (by decide) h
  · intro h
    obtain ⟨k, hk⟩ := inn_ex h
    obtain ⟨h1, h2⟩ := lnof_lt hk
    have : k = 0 ∨ k = 1 ∨ k = 2 := by omega
    rcases this with e | e | e <;> subst e
    · exact Or.inl h2
    · exact Or.inr (Or.inl h2)
    · exact Or.inr (Or.inr h2)
theorem inn_in {P : Nat → List Nat} {k c x : Nat} (hk : k < 3) : inn (sp P k (c :: P k)) x ↔ inn P x ∨ x = c := by
  constructor
  · intro h
    obtain ⟨j, hj⟩ := inn_ex h
    obtain ⟨h1, h2⟩ := lnof_lt hj
    unfold sp at h2
    split at h2
    · rename_i e
      subst e
      rcases List.mem_cons.mp h2 with q | q
      · exact Or.inr q
      · exact Or.inl (inn_mem h1 q)
    · exact Or.inl (inn_mem h1 h2)
  · intro h
    rcases h with h | h
    · obtain ⟨j, hj⟩ := inn_ex h
      obtain ⟨h1, h2⟩ := lnof_lt hj
      refine inn_mem (k := j) h1 ?_
      unfold sp
      split
      · rename_i e
        subst e
        exact List.mem_cons_of_mem _ h2
      · exact h2
    · refine inn_mem (k := k) hk ?_
      unfold sp
      rw [if_pos rfl, h]
      exact List.mem_cons_self
theorem inn_out {Y : YD} {P : Nat → List Nat} (hP : p_ok Y P) {k c x : Nat} (hk : k < 3) (hc : (P k).head? = some c) : inn (sp P k (P k).tail) x ↔ inn P x ∧ x ≠ c := by
  have hn := p_outf hP hk hc
  constructor
  · intro h
    refine ⟨?_, fun e => ?_⟩
    · obtain ⟨j, hj⟩ := inn_ex h
      obtain ⟨h1, h2⟩ := lnof_lt hj
      unfold sp at h2
      split at h2
      · rename_i e
        subst e
        exact inn_mem h1 (List.mem_of_mem_tail h2)
      · exact inn_mem h1 h2
    · rw [e] at h
      unfold inn at h
      rw [hn] at h
      cases h
  · intro ⟨h, hne⟩
    obtain ⟨j, hj⟩ := inn_ex h
    obtain ⟨h1, h2⟩ := lnof_lt hj
    refine inn_mem (k := j) h1 ?_
    unfold sp
    split
    · rename_i e
      subst e
      cases hr : P j with
      | nil => rw [hr] at h2; cases h2
      | cons y t =>
        rw [hr] at h2 hc
        cases hc
        rcases List.mem_cons.mp h2 with q | q
        · exact absurd q hne
        · exact q
    · exact h2
theorem inn_mv {Y : YD} {P : Nat → List Nat} (hP : p_ok Y P) {a b f x : Nat} (ha : a < 3) (hb : b < 3) (hf : (P a).head? = some f) : inn (mvc P a b f) x ↔ inn P x := by
  unfold mvc
  rw [inn_in hb, inn_out hP ha hf]
  have hfi : inn P f := inn_mem ha (List.mem_of_mem_head? hf)
  constructor
  · intro h
    rcases h with h | h
    · exact h.1
    · rw [h]; exact hfi
  · intro h
    by_cases e : x = f
    · exact Or.inr e
    · exact Or.inl ⟨h, e⟩
/-- the one that goes next -/
def fst9 (Y : YD) (P : Nat → List Nat) (c : Nat) : Prop := inn P c ∧ ∀ x, inn P x → x ≠ c → soon Y c x = true
theorem soon_asym {Y : YD} {a b : Nat} (h : soon Y a b = true) : soon Y b a = false := by
  cases e : soon Y b a with
  | false => rfl
  | true =>
    have := (soon_ok Y).2.1 a b a h e
    rw [(soon_ok Y).1 a] at this
    cases this
theorem fst_u {Y : YD} {P : Nat → List Nat} {c d : Nat} (h : fst9 Y P c) (h' : fst9 Y P d) : c = d := by
  refine Classical.byContradiction fun hne => ?_
  have a := h.2 d h'.1 (fun e => hne e.symm)
  have b := h'.2 c h.1 hne
  rw [soon_asym a] at b
  cases b
theorem ord_split {Y : YD} {pre cs : List Nat} {c : Nat} (h : pre ++ c :: cs = ordL (soon Y) (Y 1 0)) : ∀ x ∈ cs, soon Y c x = true := by
  have hp := ord_pair (soon_ok Y) (Y 1 0)
  rw [← h, List.pairwise_append, List.pairwise_cons] at hp
  exact hp.2.1.1
theorem fst_split {Y : YD} {P : Nat → List Nat} (hP : p_ok Y P) {pre cs : List Nat} {c : Nat} (h : pre ++ c :: cs = ordL (soon Y) (Y 1 0)) (hpre : ∀ x ∈ pre, ¬ inn P x) (hc : inn P c) : fst9 Y P c := by
  refine ⟨hc, fun x hx hne => ?_⟩
  have hm : x ∈ ordL (soon Y) (Y 1 0) := (ord_mem (soon_ok Y)).mpr (inn_lt hP hx)
  rw [← h] at hm
  rcases List.mem_append.mp hm with q | q
  · exact absurd hx (hpre x q)
  · rcases List.mem_cons.mp q with q | q
    · exact absurd q hne
    · exact ord_split h x q
theorem nxt_fst {Y : YD} {P : Nat → List Nat} (hP : p_ok Y P) {c : Nat} : nxt Y P = some c ↔ fst9 Y P c := by
  have fwd : ∀ {c : Nat}, nxt Y P = some c → fst9 Y P c := by
    intro c h
    unfold nxt at h
    obtain ⟨h1, pre, cs, h2, h3⟩ := List.find?_eq_some_iff_append.mp h
    refine fst_split hP h2.symm (fun x hx hi => ?_) (inn_isin.mp h1)
    have := h3 x hx
    rw [inn_isin.mpr hi] at this
    cases this
  refine ⟨fwd, fun h => ?_⟩
  cases e : nxt Y P with
  | none =>
    unfold nxt at e
    rw [List.find?_eq_none] at e
    exact absurd (inn_isin.mpr h.1) (e c ((ord_mem (soon_ok Y)).mpr (inn_lt hP h.1)))
  | some d => rw [fst_u h (fwd e)]
/-- none can leave -/
def Stk (Y : YD) (P : Nat → List Nat) : Prop := ∀ c k, fst9 Y P c → lnof P c = some k → (P k).head? ≠ some c
theorem lout_ind {Y : YD} (I : (Nat → List Nat) → Prop) (hI : ∀ Q k c, p_ok Y Q → k < 3 → (Q k).head? = some c → fst9 Y Q c → I Q → I (sp Q k (Q k).tail)) : ∀ (cs pre : List Nat) (P : Nat → List Nat), pre ++ cs = ordL (soon Y) (Y 1 0) → (∀ x ∈ pre, ¬ inn P x) → p_ok Y P → I P → p_ok Y (lout cs P) ∧ I (lout cs P) ∧ Stk Y (lout cs P) := by
  intro cs
  induction cs with
  | nil =>
    intro pre P hc hpre hP hi
    refine ⟨hP, hi, fun c k hf _ => ?_⟩
    have hm : c ∈ ordL (soon Y) (Y 1 0) := (ord_mem (soon_ok Y)).mpr (inn_lt hP hf.1)
    rw [← hc, List.append_nil] at hm
    exact absurd hf.1 (hpre c hm)
  | cons c cs ih =>
    intro pre P hc hpre hP hi
    have hc' : (pre ++ [c]) ++ cs = ordL (soon Y) (Y 1 0) := by rw [← hc]; simp
    unfold lout
    cases hl : lnof P c with
    | none =>
      dsimp only
      refine ih (pre ++ [c]) P hc' (fun x hx => ?_) hP hi
      rcases List.mem_append.mp hx with q | q
      · exact hpre x q
      · simp only [List.mem_cons, List.not_mem_nil, or_false] at q
        intro h
        unfold inn at h
        rw [q, hl] at h
        cases h
    | some k =>
      dsimp only
      have hin : inn P c := by unfold inn; rw [hl]; rfl
      have hf := fst_split hP hc hpre hin
      obtain ⟨hk, hm⟩ := lnof_lt hl
      by_cases e : (P k).head? = some c
      · rw [if_pos e]
        refine ih (pre ++ [c]) _ hc' (fun x hx h => ?_) (p_out hP k hk) (hI P k c hP hk e hf hi)
        have := (inn_out hP hk e).mp h
        rcases List.mem_append.mp hx with q | q
        · exact hpre x q this.1
        · simp only [List.mem_cons, List.not_mem_nil, or_false] at q
          exact this.2 q
      · rw [if_neg e]
        refine ⟨hP, hi, fun c' k' hf' hl' => ?_⟩
        have := fst_u hf' hf
        subst this
        rw [hl] at hl'
        cases hl'
        exact e
theorem lo_ind {Y : YD} (I : (Nat → List Nat) → Prop) (hI : ∀ Q k c, p_ok Y Q → k < 3 → (Q k).head? = some c → fst9 Y Q c → I Q → I (sp Q k (Q k).tail)) {P : Nat → List Nat} (hP : p_ok Y P) (h : I P) : p_ok Y (lo Y P) ∧ I (lo Y P) ∧ Stk Y (lo Y P) := lout_ind I hI _ [] P rfl (fun x hx => by cases hx) hP h
theorem lout_stk {Y : YD} : ∀ (cs pre : List Nat) (P : Nat → List Nat), pre ++ cs = ordL (soon Y) (Y 1 0) → (∀ x ∈ pre, ¬ inn P x) → p_ok Y P → Stk Y P → lout cs P = P := by
  intro cs
  induction cs with
  | nil => intro pre P _ _ _ _; rfl
  | cons c cs ih =>
    intro pre P hc hpre hP hs
    have hc' : (pre ++ [c]) ++ cs = ordL (soon Y) (Y 1 0) := by rw [← hc]; simp
    unfold lout
    cases hl : lnof P c with
    | none =>
      dsimp only
      refine ih (pre ++ [c]) P hc' (fun x hx => ?_) hP hs
      rcases List.mem_append.mp hx with q | q
      · exact hpre x q
      · simp only [List.mem_cons, List.not_mem_nil, or_false] at q
        intro h
        unfold inn at h
        rw [q, hl] at h
        cases h
    | some k =>
      dsimp only
      have hin : inn P c := by unfold inn; rw [hl]; rfl
      rw [if_neg (hs c k (fst_split hP hc hpre hin) hl)]
theorem lo_stk {Y : YD} {P : Nat → List Nat} (hP : p_ok Y P) (hs : Stk Y P) : lo Y P = P := lout_stk _ [] P rfl (fun x hx => by cases hx) hP hs
theorem sp_eq {P : Nat → List Nat} {k : Nat} {r : List Nat} : sp P k r k = r := if_pos rfl
theorem sp_ne {P : Nat → List Nat} {k j : Nat} {r : List Nat} (h : j ≠ k) : sp P k r j = P j := if_neg h
theorem mvc_a {P : Nat → List Nat} {a b f : Nat} (h : a ≠ b) : mvc P a b f a = (P a).tail := by
  unfold mvc
  rw [sp_ne h, sp_eq]
theorem mvc_b {P : Nat → List Nat} {a b f : Nat} (h : a ≠ b) : mvc P a b f b = f :: P b := by
  unfold mvc
  rw [sp_eq, sp_ne (fun e => h e.symm)]
theorem mvc_o {P : Nat → List Nat} {a b f j : Nat} (h1 : j ≠ a) (h2 : j ≠ b) : mvc P a b f j = P j := by
  unfold mvc
  rw [sp_ne h2, sp_ne h1]
theorem fst_mv {Y : YD} {P : Nat → List Nat} (hP : p_ok Y P) {a b f c : Nat} (ha : a < 3) (hb : b < 3) (hf : (P a).head? = some f) : fst9 Y (mvc P a b f) c ↔ fst9 Y P c := by
  unfold fst9
  rw [inn_mv hP ha hb hf]
  constructor
  · intro h; exact ⟨h.1, fun x hx => h.2 x ((inn_mv hP ha hb hf).mpr hx)⟩
  · intro h; exact ⟨h.1, fun x hx => h.2 x ((inn_mv hP ha hb hf).mp hx)⟩
/-- where the one that is awaited does not come to the front, none leaves -/
theorem stk_mv {Y : YD} (hY : y_ok Y) {P : Nat → List Nat} (hP : p_ok Y P) (hs : Stk Y P) {a b f : Nat} (ha : a < 3) (hb : b < Y 0 0) (hab : a ≠ b) (hf : (P a).head? = some f) (hn : (mvc P a b f a).head? ≠ nxt Y P) : Stk Y (mvc P a b f) := by
  have h3 := hY.1
  have hb3 : b < 3 := by omega
  have hQ := (p_mv hY hP ha hb hf).1
  intro c k hfc hl he
  rw [fst_mv hP ha hb3 hf] at hfc
  obtain ⟨hk, hm⟩ := lnof_lt hl
  by_cases ka : k = a
  · subst ka
    exact hn (he.trans ((nxt_fst hP).mpr hfc).symm)
  · by_cases kb : k = b
    · subst kb
      rw [mvc_b hab] at he
      have e : f = c := Option.some.inj he
      rw [e] at hf
      exact hs c a hfc ((lnof_iff hP ha).mpr (List.mem_of_mem_head? hf)) hf
    · rw [mvc_o ka kb] at he hm
      exact hs c k hfc ((lnof_iff hP hk).mpr hm) he
def stl (Y : YD) : Option Nat → (Nat → List Nat) → (Nat → List Nat)
  | none, P => lo Y P
  | some _, P => P
def rmX (Y : YD) (w : Nat) (P : Nat → List Nat) (k : Nat) : Int := rmZ Y P k + if k = 0 then (w : Int) else 0
def mvE (Y : YD) (w : Nat) (g : Option Nat) (P : Nat → List Nat) (x : Nat) (Q : Nat → List Nat) : Prop := ∃ a b f, a < Y 0 0 ∧ b < Y 0 0 ∧ a ≠ b ∧ (P a).head? = some f ∧ (lgt Y f : Int) ≤ rmX Y w P b ∧ x = 10 * a + b ∧ Q = stl Y g (mvc P a b f)
def fitW (Y : YD) (w : Nat) (P : Nat → List Nat) : Prop := ∀ k, k < 3 → usd Y (P k) ≤ plc Y k + if k = 0 then w else 0
/-- what is true of each stand that is come to from R -/
def RSx (Y : YD) (w : Nat) (g : Option Nat) (R P : Nat → List Nat) : Prop := p_ok Y P ∧ fitW Y w P ∧ (g = none → Stk Y P) ∧ (∀ c, inn P c → inn R c) ∧ (∀ c d, soon Y c d = true → inn P c → inn R d → inn P d) ∧ (g ≠ none → ∀ c, inn R c → inn P c)
theorem usd_tl (Y : YD) (r : List Nat) : usd Y r.tail ≤ usd Y r := by
  cases r with
  | nil => exact Nat.le_refl _
  | cons c r => rw [List.tail_cons, usd]; omega
theorem fitW_out {Y : YD} {w : Nat} {P : Nat → List Nat} (h : fitW Y w P) (k : Nat) : fitW Y w (sp P k (P k).tail) := fun j hj => by
  by_cases e : j = k
  · rw [e, sp_eq]
    have := h j hj
    rw [e] at this
    exact Nat.le_trans (usd_tl Y _) this
  · rw [sp_ne e]; exact h j hj
theorem fitW_mv {Y : YD} {w : Nat} {P : Nat → List Nat} (h : fitW Y w P) {a b f : Nat} (hab : a ≠ b) (hr : (lgt Y f : Int) ≤ rmX Y w P b) : fitW Y w (mvc P a b f) := fun j hj => by
  by_cases ea : j = a
  · rw [ea, mvc_a hab]
    have := h j hj
    rw [ea] at this
    exact Nat.le_trans (usd_tl Y _) this
  · by_cases eb : j = b
    · rw [eb, mvc_b hab, usd]
      unfold rmX rmZ at hr
      split at hr
      · rename_i e; rw [if_pos e]; omega
      · rename_i e; rw [if_neg e]; omega
    · rw [mvc_o ea eb]; exact h j hj
/-- all leave whose turn it is: what stays true -/
theorem RSx_lo {Y : YD} {w : Nat} {R P : Nat → List Nat} (hP : p_ok Y P) (hw : fitW Y w P) (h1 : ∀ c, inn P c → inn R c) (h2 : ∀ c d, soon Y c d = true → inn P c → inn R d → inn P d) : RSx Y w none R (lo Y P) := by
  have := lo_ind (Y := Y) (fun Q => fitW Y w Q ∧ (∀ c, inn Q c → inn R c) ∧ (∀ c d, soon Y c d = true → inn Q c → inn R d → inn Q d)) (fun Q k c hQ hk hc hf hi => by
    refine ⟨fitW_out hi.1 k, fun x hx => hi.2.1 x ((inn_out hQ hk hc).mp hx).1, fun x y hxy hx hy => ?_⟩
    have hx' := (inn_out hQ hk hc).mp hx
    refine (inn_out hQ hk hc).mpr ⟨hi.2.2 x y hxy hx'.1 hy, fun e => ?_⟩
    have := hf.2 x hx'.1 hx'.2
    rw [e, soon_asym this] at hxy
    cases hxy) hP ⟨hw, h1, h2⟩
  exact ⟨this.1, this.2.1.1, fun _ => this.2.2, this.2.1.2.1, this.2.1.2.2, fun h => absurd rfl h⟩
theorem RSx_mv {Y : YD} (hY : y_ok Y) {w : Nat} {g : Option Nat} {R P Q : Nat → List Nat} {x : Nat} (h : RSx Y w g R P) (hm : mvE Y w g P x Q) : RSx Y w g R Q := by
  have h3 := hY.1
  obtain ⟨a, b, f, ha, hb, hab, hf, hr, hx, hQ⟩ := hm
  obtain ⟨r1, r2, r3, r4, r5, r6⟩ := h
  have hp := (p_mv hY r1 (show a < 3 by omega) hb hf).1
  have hi : ∀ c, inn (mvc P a b f) c ↔ inn P c := fun c => inn_mv r1 (by omega) (by omega) hf
  have hw := fitW_mv r2 hab hr
  have k1 : ∀ c, inn (mvc P a b f) c → inn R c := fun c hc => r4 c ((hi c).mp hc)
  have k2 : ∀ c d, soon Y c d = true → inn (mvc P a b f) c → inn R d → inn (mvc P a b f) d := fun c d hs hc hd => (hi d).mpr (r5 c d hs ((hi c).mp hc) hd)
  subst hQ
  cases g with
  | none => exact RSx_lo hp hw k1 k2
  | some c0 => exact ⟨hp, hw, (fun e => by cases e), k1, k2, fun e c hc => (hi c).mpr (r6 e c hc)⟩
theorem RSx_0 {Y : YD} {w : Nat} (g : Option Nat) {P : Nat → List Nat} (hP : p_ok Y P) (hw : fitW Y w P) : RSx Y w g P (stl Y g P) := by
  cases g with
  | none => exact RSx_lo hP hw (fun _ h => h) (fun _ _ _ _ h => h)
  | some c => exact ⟨hP, hw, (fun e => by cases e), (fun _ h => h), (fun _ _ _ _ h => h), fun _ _ h => h⟩
theorem RSx_wk {Y : YD} (hY : y_ok Y) {w : Nat} {g : Option Nat} {P : Nat → List Nat} (hP : p_ok Y P) (hw : fitW Y w P) : ∀ {n : Nat} {Q : Nat → List Nat} {f : Nat}, Wk (mvE Y w g) (stl Y g P) n Q f → RSx Y w g P Q
  | 0, Q, f, h => by
    have : Q = stl Y g P := h
    rw [this]
    exact RSx_0 g hP hw
  | n + 1, Q, f, h => by
    obtain ⟨u, f', x, hu, he, _⟩ := h
    exact RSx_mv hY (RSx_wk hY hP hw hu) he
