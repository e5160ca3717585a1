/-! Work: reading its text -/
def wE (S : qSt) (q j : Nat) : Int32 := q_I S (19 + q) 0 j
def sok (Y : YD) (k a b c : Nat) : Prop := (k ≤ 1 → a < Y 1 0) ∧ (k ≤ 2 → b < Y 0 0) ∧ (k = 1 → c < Y 0 0)
/-- the steps that stand from j on, up to j', mean X -/
def CI (Y : YD) (cd : List Tok) (E : Nat → Nat → Int32) (j j' : Nat) (X : WF) : Prop := ∀ P : Nat → Nat → WF → Prop, (∀ j, P j j id) →
  (∀ j j' k a b c X, E 0 j = nI k → k ≤ 3 → E 1 j = nI a → E 2 j = nI b → E 3 j = nI c → sok Y k a b c → P (j + 1) j' X → P j j' (fun s => X (stf Y cd k a b c s))) →
  (∀ j m j' N Xb X, E 0 j = nI 4 → E 1 j = nI N → N ≤ 30 → E 2 j = nI m → j < m → m < 150 → E 0 m = nI 5 → E 1 m = nI j → P (j + 1) m Xb → P (m + 1) j' X → P j j' (fun s => X (agf N Xb s))) → P j j' X
section CIS
variable {Y : YD} {cd : List Tok} {E E' : Nat → Nat → Int32}
theorem CI.nil (j : Nat) : CI Y cd E j j id := fun _ h1 _ _ => h1 j
theorem CI.one {j k a b c : Nat} (h0 : E 0 j = nI k) (hk : k ≤ 3) (h1 : E 1 j = nI a) (h2 : E 2 j = nI b) (h3 : E 3 j = nI c) (ho : sok Y k a b c) : CI Y cd E j (j + 1) (stf Y cd k a b c) := fun _ p1 p2 _ => p2 j (j + 1) k a b c id h0 hk h1 h2 h3 ho (p1 (j + 1))
theorem CI.ag {j m N : Nat} {Xb : WF} (h0 : E 0 j = nI 4) (h1 : E 1 j = nI N) (hN : N ≤ 30) (h2 : E 2 j = nI m) (hm : j < m) (hm2 : m < 150) (h3 : E 0 m = nI 5) (h4 : E 1 m = nI j) (hb : CI Y cd E (j + 1) m Xb) : CI Y cd E j (m + 1) (agf N Xb) := fun P p1 p2 p3 => p3 j m (m + 1) N Xb id h0 h1 hN h2 hm hm2 h3 h4 (hb P p1 p2 p3) (p1 (m + 1))
theorem CI.seq {j m j' : Nat} {X X' : WF} (h : CI Y cd E j m X) (h' : CI Y cd E m j' X') : CI Y cd E j j' (fun s => X' (X s)) := by
  intro P p1 p2 p3
  refine h (fun j0 m0 X0 => ∀ j' X', P m0 j' X' → P j0 j' (fun s => X' (X0 s))) ?_ ?_ ?_ j' X' (h' P p1 p2 p3)
  · intro j j' X' hp
    exact hp
  · intro j j' k a b c X h0 hk h1 h2 h3 ho ih j2 X' hp
    exact p2 j j2 k a b c _ h0 hk h1 h2 h3 ho (ih j2 X' hp)
  · intro j m j' N Xb X h0 h1 hN h2 hm hm2 h3 h4 ib ih j2 X' hp
    exact p3 j m j2 N Xb _ h0 h1 hN h2 hm hm2 h3 h4 (ib m id (p1 m)) (ih j2 X' hp)
theorem CI.le {j j' : Nat} {X : WF} (h : CI Y cd E j j' X) : j ≤ j' := by
  refine h (fun j j' _ => j ≤ j') (fun j => Nat.le_refl j) ?_ ?_
  · intro j j' k a b c X _ _ _ _ _ _ ih
    omega
  · intro j m j' N Xb X _ _ _ _ _ _ _ _ h1 h2
    omega
theorem CI.cong {j j' : Nat} {X : WF} (h : CI Y cd E j j' X) (he : ∀ q i, q < 4 → j ≤ i → i < j' → E' q i = E q i) : CI Y cd E' j j' X := by
  have key : j ≤ j' ∧ ((∀ q i, q < 4 → j ≤ i → i < j' → E' q i = E q i) → CI Y cd E' j j' X) := by
    refine h (fun j j' X => j ≤ j' ∧ ((∀ q i, q < 4 → j ≤ i → i < j' → E' q i = E q i) → CI Y cd E' j j' X)) ?_ ?_ ?_
    · intro j
      exact ⟨Nat.le_refl j, fun _ => CI.nil j⟩
    · intro j j' k a b c X h0 hk h1 h2 h3 ho ih
      refine ⟨by omega, fun he => ?_⟩
      have hx := ih.2 (fun q i hq h1 h2 => he q i hq (by omega) h2)
      have h1' := CI.one (E := E') (Y := Y) (cd := cd) (j := j) (k := k) (a := a) (b := b) (c := c) (by rw [he 0 j (by decide) (by omega) (by omega)]; exact h0) hk (by rw [he 1 j (by decide) (by omega) (by omega)]; exact h1) (by rw [he 2 j (by decide) (by omega) (by omega)]; exact h2) (by rw [he 3 j (by decide) (by omega) (by omega)]; exact h3) ho
      exact h1'.seq hx
    · intro j m j' N Xb X h0 h1 hN h2 hm hm2 h3 h4 ib ih
      refine ⟨by omega, fun he => ?_⟩
      have hx := ih.2 (fun q i hq h1 h2 => he q i hq (by omega) h2)
      have hb := ib.2 (fun q i hq h1 h2 => he q i hq (by omega) (by omega))
      have h1' := CI.ag (E := E') (Y := Y) (cd := cd) (j := j) (m := m) (N := N) (Xb := Xb) (by rw [he 0 j (by decide) (by omega) (by omega)]; exact h0) (by rw [he 1 j (by decide) (by omega) (by omega)]; exact h1) hN (by rw [he 2 j (by decide) (by omega) (by omega)]; exact h2) hm hm2 (by rw [he 0 m (by decide) (by omega) (by omega)]; exact h3) (by rw [he 1 m (by decide) (by omega) (by omega)]; exact h4) hb
      exact h1'.seq hx
  exact key.2 he
end CIS
def WC (S : qSt) (z : Nat) : Prop := q_I S 18 0 5 = nI z ∧ z ≤ 150
abbrev Fwk : Nat → Nat → Prop := fun f _ => f = 1 ∨ (18 ≤ f ∧ f ≤ 22)
abbrev Fw2 : Nat → Nat → Prop := fun f _ => 18 ≤ f ∧ f ≤ 22
theorem wc_r1 {S S' : qSt} {z : Nat} (h : WC S z) (hf : fr Fr1 S S') : WC S' z := by
  unfold WC at *
  rw [(hf 18 0 (fun q => by cases q)).1]
  exact h
theorem wE_r1 {S S' : qSt} (hf : fr Fr1 S S') (q j : Nat) : wE S' q j = wE S q j := by
  unfold wE
  rw [(hf (19 + q) 0 (fun h => by have : 19 + q = 1 := h; omega)).1]
theorem fwk_1 {S S' : qSt} (h : fr Fr1 S S') : fr Fwk S S' := h.mn fun f j h => Or.inl h
theorem fwk_2 {S S' : qSt} (h : fr Fw2 S S') : fr Fwk S S' := h.mn fun f j h => Or.inr h
theorem rs_w2 {S S' : qSt} {T : Nat → Nat} {n : Nat} {s : PS} (h : RS S T n s) (hf : fr Fw2 S S') : RS S' T n s := h.fr hf (by omega) (by omega)
theorem yr_wk {S S' : qSt} {y : Nat} {Y : YD} (h : YR S y Y) (hf : fr Fwk S S') : YR S' y Y := h.fr hf (fun f h1 h2 h => by omega)
theorem c_wwrite (l : Launch) (S : qSt) {z : Nat} (k a b c : Int32) (h : WC S z) : q_Met q_mt l 0 k_X8_write 0 [.inr (.inr (18, 0)), .inl k, .inl a, .inl b, .inl c] S (fun _ S' => (∃ z', WC S' z' ∧ z ≤ z' ∧ (z < 150 → z' = z + 1 ∧ wE S' 0 z = k ∧ wE S' 1 z = a ∧ wE S' 2 z = b ∧ wE S' 3 z = c)) ∧ (∀ q i, q < 4 → i < z → wE S' q i = wE S q i) ∧ fr Fw2 S S') := by
  refine q_meth zoX8_write q_fos (Nat.le_of_ble_eq_true rfl) ?_
  intro AT step
  refine step 20 [] 0 _ _ _ ?_
  simp only [q_vcs, q_vcc, q_vl, q_vu, ↓reduceIte, Nat.reduceEqDiff, Bool.false_eq_true, q_isc, q_mk, q_msk, zbX8_write, q_pad, q_ent, q_get, q_put, q_nl, q_w, List.cons_append, List.nil_append, q_aks, q_als, Nat.reduceAdd, Nat.reduceLeDiff, Nat.zero_le, true_and, and_true, Option.some.injEq, Sum.inl.injEq, Sum.inr.injEq, true_or, or_true, and_self, q_sw]
  obtain ⟨h1, h2⟩ := h
  rw [h1, show Int32.ofNat 150 = nI 150 from rfl, nI_leI (by decide) (by omega), i_cl (by omega)]
  refine ⟨by decide, fun h => ⟨⟨z, ⟨h1, h2⟩, Nat.le_refl _, fun h' => by omega⟩, fun _ _ _ _ => (by first | trivial | rfl | exact ⟨rfl, rfl⟩), fr.rf⟩, fun h => ?_⟩
  have hin : vp_in (nI z) 150 := i_in (by omega) (by decide)
  have hcl : (nI z).toNatClampNeg = z := i_cl (by omega)
  have i1 : q_I (q_wI S 19 0 z k) 18 0 5 = nI z := h1
  have i2 : q_I (q_wI (q_wI S 19 0 z k) 20 0 z a) 18 0 5 = nI z := h1
  have i3 : q_I (q_wI (q_wI (q_wI S 19 0 z k) 20 0 z a) 21 0 z b) 18 0 5 = nI z := h1
  have i4 : q_I (q_wI (q_wI (q_wI (q_wI S 19 0 z k) 20 0 z a) 21 0 z b) 22 0 z c) 18 0 5 = nI z := h1
  simp only [i1, i2, i3, i4, hcl, nI_1]
  refine ⟨hin, hin, hin, hin, ⟨z + 1, ⟨?_, by omega⟩, by omega, fun _ => ⟨rfl, ?_, ?_, ?_, ?_⟩⟩, fun q i hq hi => ?_, fr.wI (fr.wI (fr.wI (fr.wI (fr.wI fr.rf (by decide)) (by decide)) (by decide)) (by decide)) (by decide)⟩
  · rw [q_I_wI, if_pos ⟨rfl, rfl, rfl⟩]
  · unfold wE; simp [q_I_wI]
  · unfold wE; simp [q_I_wI]
  · unfold wE; simp [q_I_wI]
  · unfold wE; simp [q_I_wI]
  · unfold wE
    simp only [q_I_wI]
    rw [if_neg (by omega), if_neg (by omega), if_neg (by omega), if_neg (by omega), if_neg (by omega)]
theorem c_wreadLane (l : Launch) (S : qSt) {T : Nat → Nat} {n y : Nat} {s : PS} {Y : YD} (hY : y_ok Y) (hR : RS S T n s) (hYR : YR S y Y) : q_Met q_mt l 3 k_X8_readLane 1 [.inr (.inr (1, 0)), .inr (.inr (3, y))] S (fun r S' => ∃ v, r = some (.inl (nI v)) ∧ v ≤ 2 ∧ ((pnm T n 0 (Y 0 0) s).isLeft = true → v = pvl T n s ∧ v < Y 0 0) ∧ RQ S S' T n (pnm T n 0 (Y 0 0) s)) := by
  have h3 := hY.1
  refine q_meth zoX8_readLane q_fos (Nat.le_of_ble_eq_true rfl) ?_
  intro AT step
  refine step 20 [] 0 _ _ _ ?_
  simp only [q_vcs, q_vcc, q_vl, q_vu, ↓reduceIte, Nat.reduceEqDiff, Bool.false_eq_true, q_isc, q_mk, q_msk, zbX8_readLane, q_pad, q_ent, q_get, q_put, q_nl, q_w, List.cons_append, List.nil_append, q_aks, q_als, Nat.reduceAdd, Nat.reduceLeDiff, Nat.zero_le, true_and, and_true, Option.some.injEq, Sum.inl.injEq, Sum.inr.injEq, true_or, or_true, and_self, q_sw]
  rw [hYR.1]
  refine ⟨_, _, (by decide : 2 < 3), c_rnum l S (lo := 0) (h := Y 0 0) hR rfl rfl (by decide) (by omega), fun v S1 h1 => ?_⟩
  obtain ⟨w, hv, k1, k2, k3, k4⟩ := h1
  cases hv
  exact ⟨w, rfl, by omega, k3, k4⟩
/-- what reading makes of the rows -/
def WwQ (T : Nat → Nat) (n : Nat) (Y : YD) (cd : List Tok) (z : Nat) (x : PS × WF) (S S' : qSt) : Prop := RS S' T n x.1 ∧ (∃ z', WC S' z' ∧ z ≤ z' ∧ ∀ b, x.1 = .inl b → z' ≤ b ∧ CI Y cd (wE S') z z' x.2) ∧ (∀ q i, q < 4 → i < z → wE S' q i = wE S q i) ∧ fr Fwk S S'
def wpS (T : Nat → Nat) (n : Nat) (Y : YD) (cd : List Tok) (f o : Nat) (s : PS) : WR := match s with
  | .inl a => wp T n Y cd f 0 o a
  | .inr q => some (.inr q, id)
def WwS (l : Launch) (T : Nat → Nat) (n : Nat) (Y : YD) (cd : List Tok) (y f : Nat) : Prop := ∀ (o : Nat) (s : PS) (x : PS × WF) (S : qSt) (z : Nat), wpS T n Y cd f o s = some x → o ≤ 6 → RS S T n s → WC S z → (∀ a, s = .inl a → z ≤ a) → YR S y Y → q_Met q_mt l (10 + 3 * (6 - o)) k_X8_readSteps 0 [.inr (.inr (18, 0)), .inr (.inr (1, 0)), .inr (.inr (3, y)), .inl (nI o)] S (fun _ S' => WwQ T n Y cd z x S S')
def WwU (l : Launch) (T : Nat → Nat) (n : Nat) (Y : YD) (cd : List Tok) (y f : Nat) : Prop := ∀ (o a : Nat) (x : PS × WF) (S : qSt) (z : Nat), wp T n Y cd f 1 o a = some x → o ≤ 6 → RD S T n a none → WC S z → z ≤ a → YR S y Y → q_Met q_mt l (9 + 3 * (6 - o)) k_X8_readStep 0 [.inr (.inr (18, 0)), .inr (.inr (1, 0)), .inr (.inr (3, y)), .inl (nI o)] S (fun _ S' => WwQ T n Y cd z x S S')
