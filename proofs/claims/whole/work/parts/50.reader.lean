/-! Reader: the text on the tape -/
def spn (p : Nat → Bool) : Nat → Nat → Nat
  | 0, a => a
  | f + 1, a => if p a then spn p f (a + 1) else a
def tb (T : Nat → Nat) (n : Nat) (p : Nat → Bool) (k : Nat) : Bool := decide (k < n) && p (T k)
/-- the first place from a on where p ends -/
def tx (T : Nat → Nat) (n : Nat) (p : Nat → Bool) (a : Nat) : Nat := spn (tb T n p) (n - a) a
theorem tb_lt {T : Nat → Nat} {n : Nat} {p : Nat → Bool} {a : Nat} (h : tb T n p a = true) : a < n ∧ p (T a) = true := by
  unfold tb at h
  simpa using h
theorem tx_t {T : Nat → Nat} {n : Nat} {p : Nat → Bool} {a : Nat} (h : tb T n p a = true) : tx T n p a = tx T n p (a + 1) := by
  have ha := (tb_lt h).1
  unfold tx
  rw [show n - a = (n - (a + 1)) + 1 by omega, spn, if_pos h]
theorem tx_f {T : Nat → Nat} {n : Nat} {p : Nat → Bool} {a : Nat} (h : tb T n p a = false) : tx T n p a = a := by
  unfold tx
  cases n - a with
  | zero => rfl
  | succ m => rw [spn, if_neg (by rw [h]; decide)]
theorem tx_all {T : Nat → Nat} {n : Nat} {p : Nat → Bool} : ∀ (m a : Nat), n - a ≤ m → a ≤ tx T n p a ∧ (a ≤ n → tx T n p a ≤ n) ∧ tb T n p (tx T n p a) = false ∧ ∀ k, a ≤ k → k < tx T n p a → tb T n p k = true := by
  intro m
  induction m with
  | zero =>
    intro a h
    have hf : tb T n p a = false := by
      cases hb : tb T n p a with
      | false => rfl
      | true => have := (tb_lt hb).1; omega
    rw [tx_f hf]
    exact ⟨Nat.le_refl _, fun h => h, hf, fun k h1 h2 => by omega⟩
  | succ m ih =>
    intro a h
    cases hb : tb T n p a with
    | false =>
      rw [tx_f hb]
      exact ⟨Nat.le_refl _, fun h => h, hb, fun k h1 h2 => by omega⟩
    | true =>
      have ha := (tb_lt hb).1
      obtain ⟨h1, h2, h3, h4⟩ := ih (a + 1) (by omega)
      rw [tx_t hb]
      refine ⟨by omega, fun _ => h2 (by omega), h3, fun k k1 k2 => ?_⟩
      by_cases e : k = a
      · rw [e]; exact hb
      · exact h4 k (by omega) k2
theorem tx_ge (T : Nat → Nat) (n : Nat) (p : Nat → Bool) (a : Nat) : a ≤ tx T n p a := (tx_all (n - a) a (Nat.le_refl _)).1
theorem tx_le {T : Nat → Nat} {n : Nat} {p : Nat → Bool} {a : Nat} (h : a ≤ n) : tx T n p a ≤ n := (tx_all (n - a) a (Nat.le_refl _)).2.1 h
theorem tx_end (T : Nat → Nat) (n : Nat) (p : Nat → Bool) (a : Nat) : tb T n p (tx T n p a) = false := (tx_all (n - a) a (Nat.le_refl _)).2.2.1
theorem tx_in {T : Nat → Nat} {n : Nat} {p : Nat → Bool} {a k : Nat} (h1 : a ≤ k) (h2 : k < tx T n p a) : tb T n p k = true := (tx_all (n - a) a (Nat.le_refl _)).2.2.2 k h1 h2
theorem tx_tx (T : Nat → Nat) (n : Nat) (p : Nat → Bool) (a : Nat) : tx T n p (tx T n p a) = tx T n p a := tx_f (tx_end T n p a)
def isb (x : Nat) : Bool := decide (x = 32)
def isd (x : Nat) : Bool := decide (48 ≤ x ∧ x ≤ 57)
def isl (x : Nat) : Bool := decide (97 ≤ x ∧ x ≤ 122)
/-- the byte at a place -/
def hr (T : Nat → Nat) (n a : Nat) : Option Nat := if a < n then some (T a) else none
theorem tb_hr (T : Nat → Nat) (n : Nat) (p : Nat → Bool) (a : Nat) : tb T n p a = (hr T n a).any p := by
  unfold tb hr
  by_cases h : a < n
  · simp [h]
  · simp [h]
def b8 (x : Nat) : Int32 := (nI x).toInt8.toInt32
theorem b8_and : ∀ x, x < 256 → b8 x &&& 255 = nI x := by decide +kernel
theorem b8_eq : ∀ x, x < 256 → ∀ c, c < 128 → (b8 x = nI c ↔ x = c) := by decide +kernel
def ek : Option (Nat × Nat) → Nat
  | none => 0
  | some q => q.1
abbrev Fr1 : Nat → Nat → Prop := fun f _ => f = 1
/-- the Reader in the text T of n bytes, at a, with fault e -/
def RD (S : qSt) (T : Nat → Nat) (n a : Nat) (e : Option (Nat × Nat)) : Prop :=
  (n ≤ 600 ∧ a ≤ n ∧ (∀ q, e = some q → 1 ≤ q.1 ∧ q.1 ≤ 3 ∧ q.2 ≤ 600)) ∧ (q_I S 1 0 1 = nI 0 ∧ q_I S 1 0 2 = nI n ∧ q_I S 1 0 3 = nI a ∧ q_I S 1 0 5 = nI (ek e) ∧ q_I S 1 0 6 = oI (e.map Prod.snd)) ∧ ∀ k, k < 600 → T k < 256 ∧ q_I S 2 0 k = b8 (T k)
def RP (S S' : qSt) (T : Nat → Nat) (n a : Nat) (e : Option (Nat × Nat)) : Prop := RD S' T n a e ∧ q_I S' 1 0 4 = q_I S 1 0 4 ∧ fr Fr1 S S'
theorem fr1w {S S1 : qSt} (h : fr Fr1 S S1) {i j : Nat} {v : Int32} : fr Fr1 S (q_wI S1 1 i j v) := fr.wI h rfl
theorem RP.rf {S : qSt} {T : Nat → Nat} {n a : Nat} {e : Option (Nat × Nat)} (h : RD S T n a e) : RP S S T n a e := ⟨h, rfl, fr.rf⟩
theorem RP.tr {S S1 S2 : qSt} {T : Nat → Nat} {n a a' : Nat} {e e' : Option (Nat × Nat)} (h : RP S S1 T n a e) (h2 : RP S1 S2 T n a' e') : RP S S2 T n a' e' := ⟨h2.1, h2.2.1.trans h.2.1, h.2.2.tr h2.2.2⟩
theorem RD.fr {F : Nat → Nat → Prop} {S S' : qSt} {T : Nat → Nat} {n a : Nat} {e : Option (Nat × Nat)} (h : RD S T n a e) (hf : fr F S S') (h1 : ¬ F 1 0) (h2 : ¬ F 2 0) : RD S' T n a e := by
  unfold RD at *
  rw [(hf 1 0 h1).1, (hf 2 0 h2).1]
  exact h
theorem RD.at {S : qSt} {T : Nat → Nat} {n a : Nat} {e : Option (Nat × Nat)} (h : RD S T n a e) {b : Nat} (hb : b ≤ n) : RP S (q_wI S 1 0 3 (nI b)) T n b e := by
  obtain ⟨⟨h1, h2, h3⟩, ⟨g1, g2, g3, g4, g5⟩, h5⟩ := h
  exact ⟨⟨⟨h1, hb, h3⟩, ⟨g1, g2, rfl, g4, g5⟩, h5⟩, rfl, fr.wI fr.rf rfl⟩
def fal (e : Option (Nat × Nat)) (k p : Nat) : Option (Nat × Nat) := match e with
  | none => some (k, p)
  | some q => some q
theorem ek_0 {S : qSt} {T : Nat → Nat} {n a : Nat} {e : Option (Nat × Nat)} (h : RD S T n a e) : q_I S 1 0 5 = 0 ↔ e = none := by
  obtain ⟨⟨h1, h2, h3⟩, ⟨g1, g2, g3, g4, g5⟩, h5⟩ := h
  rw [g4, show (0 : Int32) = nI 0 from rfl]
  cases e with
  | none => simp [ek]
  | some q =>
    have := h3 q rfl
    rw [show ek (some q) = q.1 from rfl, nI_eq (by omega) (by decide)]
    simp
    omega
theorem c_isSound (l : Launch) (S : qSt) {T : Nat → Nat} {n a : Nat} {e : Option (Nat × Nat)} (h : RD S T n a e) : q_Met q_mt l 0 k_X4_isSound 1 [.inr (.inr (1, 0))] S (fun r S' => r = some (.inl (bI e.isNone)) ∧ S' = S) := by
  refine q_meth zoX4_isSound q_fos (Nat.le_of_ble_eq_true rfl) ?_
  intro AT step
  refine step 20 [] 0 _ _ _ ?_
  simp only [q_vcs, q_vcc, q_vl, q_vu, ↓reduceIte, Nat.reduceEqDiff, Bool.false_eq_true, q_isc, q_mk, q_msk, zbX4_isSound, q_pad, q_ent, q_get, q_put, q_nl, q_w, List.cons_append, List.nil_append, q_aks, q_als, Nat.reduceAdd, Nat.reduceLeDiff, Nat.zero_le, true_and, and_true, Option.some.injEq, Sum.inl.injEq, Sum.inr.injEq, true_or, or_true, and_self, q_sw]
  rw [ek_0 h]
  cases e with
  | none => exact ⟨fun h => absurd rfl h, fun _ => rfl⟩
  | some q => exact ⟨fun _ => rfl, fun h => by cases h⟩
theorem c_fail (l : Launch) (S : qSt) {T : Nat → Nat} {n a k p : Nat} {e : Option (Nat × Nat)} (h : RD S T n a e) (hk : 1 ≤ k ∧ k ≤ 3) (hp : p ≤ 600) : q_Met q_mt l 0 k_X4_fail 0 [.inr (.inr (1, 0)), .inl (nI k), .inl (nI p)] S (fun _ S' => RP S S' T n a (fal e k p)) := by
  refine q_meth zoX4_fail q_fos (Nat.le_of_ble_eq_true rfl) ?_
  intro AT step
  refine step 20 [] 0 _ _ _ ?_
  simp only [q_vcs, q_vcc, q_vl, q_vu, ↓reduceIte, Nat.reduceEqDiff, Bool.false_eq_true, q_isc, q_mk, q_msk, zbX4_fail, q_pad, q_ent, q_get, q_put, q_nl, q_w, List.cons_append, List.nil_append, q_aks, q_als, Nat.reduceAdd, Nat.reduceLeDiff, Nat.zero_le, true_and, and_true, Option.some.injEq, Sum.inl.injEq, Sum.inr.injEq, true_or, or_true, and_self, q_sw]
  rw [ek_0 h]
  cases e with
  | none =>
    refine ⟨fun h => absurd rfl h, fun _ => ?_⟩
    obtain ⟨⟨h1, h2, h3⟩, ⟨g1, g2, g3, g4, g5⟩, h5⟩ := h
    refine ⟨⟨⟨h1, h2, fun q hq => ?_⟩, ⟨g1, g2, g3, rfl, rfl⟩, h5⟩, rfl, fr1w (fr1w fr.rf)⟩
    cases hq
    exact ⟨hk.1, hk.2, hp⟩
  | some q => exact ⟨fun _ => RP.rf h, fun h => by cases h⟩
theorem i_600 : Int32.ofNat 600 = nI 600 := rfl
theorem c_here (l : Launch) (S : qSt) {T : Nat → Nat} {n a : Nat} {e : Option (Nat × Nat)} (h : RD S T n a e) : q_Met q_mt l 0 k_X4_here 1 [.inr (.inr (1, 0))] S (fun r S' => r = some (.inl (oI (hr T n a))) ∧ S' = S) := by
  refine q_meth zoX4_here q_fos (Nat.le_of_ble_eq_true rfl) ?_
  intro AT step
  refine step 20 [] 0 _ _ _ ?_
  simp only [q_vcs, q_vcc, q_vl, q_vu, ↓reduceIte, Nat.reduceEqDiff, Bool.false_eq_true, q_isc, q_mk, q_msk, zbX4_here, q_pad, q_ent, q_get, q_put, q_nl, q_w, List.cons_append, List.nil_append, q_aks, q_als, Nat.reduceAdd, Nat.reduceLeDiff, Nat.zero_le, true_and, and_true, Option.some.injEq, Sum.inl.injEq, Sum.inr.injEq, true_or, or_true, and_self, q_sw]
  obtain ⟨⟨h1, h2, h3⟩, ⟨g1, g2, g3, g4, g5⟩, h5⟩ := h
  rw [g3, g2, i_600, nI_leI (by omega) (by omega), nI_leI (by omega) (by omega)]
  refine ⟨fun h => absurd h (nI_pos (by omega)), fun _ => ⟨fun h => ?_, fun h => ⟨by decide, fun h' => absurd h' (by omega), fun _ => ⟨i_in (by omega) (by decide), ?_⟩⟩⟩⟩
  · unfold hr
    rw [if_neg (by omega)]
    rfl
  · rw [i_cl (by omega), (h5 a (by omega)).2, b8_and _ (h5 a (by omega)).1]
    unfold hr
    rw [if_pos (by omega)]
    rfl
theorem c_skipBlanks (l : Launch) (S : qSt) {T : Nat → Nat} {n a : Nat} {e : Option (Nat × Nat)} (h : RD S T n a e) : q_Met q_mt l 0 k_X4_skipBlanks 0 [.inr (.inr (1, 0))] S (fun _ S' => RP S S' T n (tx T n isb a) e) := by
  refine q_meth zoX4_skipBlanks q_fos (Nat.le_of_ble_eq_true rfl) ?_
  intro AT step
  have hL : ∀ (m b : Nat) (S1 : qSt), n - b ≤ m → RP S S1 T n b e → tx T n isb b = tx T n isb a → AT 0 [some (.inr (.inr (1, 0)))] [] S1 := by
    intro m
    induction m with
    | zero =>
      intro b S1 hm hR ht
      refine step 20 [(0, [true])] 0 _ _ _ ?_
      simp only [q_vcs, q_vcc, q_vl, q_vu, ↓reduceIte, Nat.reduceEqDiff, Bool.false_eq_true, q_isc, q_mk, q_msk, zbX4_skipBlanks, q_pad, q_ent, q_get, q_put, q_nl, q_w, List.cons_append, List.nil_append, q_aks, q_als, Nat.reduceAdd, Nat.reduceLeDiff, Nat.zero_le, true_and, and_true, Option.some.injEq, Sum.inl.injEq, Sum.inr.injEq, true_or, or_true, and_self, q_sw]
      obtain ⟨⟨h1, h2, h3⟩, ⟨g1, g2, g3, g4, g5⟩, h5⟩ := hR.1
      rw [g3, g2, nI_leI (by omega) (by omega)]
      refine ⟨fun _ => ?_, fun h => absurd (by omega) h⟩
      have hf : tb T n isb b = false := by
        unfold tb
        simp
        omega
      rw [← ht, tx_f hf]
      exact hR
    | succ m ih =>
      intro b S1 hm hR ht
      refine step 20 [(0, [true])] 0 _ _ _ ?_
      simp only [q_vcs, q_vcc, q_vl, q_vu, ↓reduceIte, Nat.reduceEqDiff, Bool.false_eq_true, q_isc, q_mk, q_msk, zbX4_skipBlanks, q_pad, q_ent, q_get, q_put, q_nl, q_w, List.cons_append, List.nil_append, q_aks, q_als, Nat.reduceAdd, Nat.reduceLeDiff, Nat.zero_le, true_and, and_true, Option.some.injEq, Sum.inl.injEq, Sum.inr.injEq, true_or, or_true, and_self, q_sw]
      have hR1 := hR
      obtain ⟨⟨h1, h2, h3⟩, ⟨g1, g2, g3, g4, g5⟩, h5⟩ := hR.1
      have fin : tb T n isb b = false → RP S S1 T n (tx T n isb a) e := fun hf => by
        rw [← ht, tx_f hf]
        exact hR
      rw [g3, g2, i_600, nI_leI (by omega) (by omega), nI_leI (by omega) (by omega), nI_1]
      refine ⟨fun h => fin (by unfold tb; simp; omega), fun h => ⟨by decide, fun h' => absurd h' (by omega), fun _ => ⟨i_in (by omega) (by decide), ?_⟩⟩⟩
      rw [i_cl (by omega), (h5 b (by omega)).2, show (32 : Int32) = nI 32 from rfl, b8_eq _ (h5 b (by omega)).1 32 (by decide)]
      refine ⟨fun hx => fin (by unfold tb isb; simp [hx]), fun hx => ?_⟩
      refine ih (b + 1) _ (by omega) (hR1.tr (hR1.1.at (by omega))) ?_
      rw [← ht]
      exact (tx_t (by unfold tb isb; simp [hx]; omega)).symm
  exact hL n a S (by omega) (RP.rf h) rfl
theorem c_isAtEnd (l : Launch) (S : qSt) {T : Nat → Nat} {n a : Nat} {e : Option (Nat × Nat)} (h : RD S T n a e) : q_Met q_mt l 1 k_X4_isAtEnd 1 [.inr (.inr (1, 0))] S (fun r S' => r = some (.inl (bI (decide (n ≤ tx T n isb a)))) ∧ RP S S' T n (tx T n isb a) e) := by
  refine q_meth zoX4_isAtEnd q_fos (Nat.le_of_ble_eq_true rfl) ?_
  intro AT step
  refine step 20 [] 0 _ _ _ ?_
  simp only [q_vcs, q_vcc, q_vl, q_vu, ↓reduceIte, Nat.reduceEqDiff, Bool.false_eq_true, q_isc, q_mk, q_msk, zbX4_isAtEnd, q_pad, q_ent, q_get, q_put, q_nl, q_w, List.cons_append, List.nil_append, q_aks, q_als, Nat.reduceAdd, Nat.reduceLeDiff, Nat.zero_le, true_and, and_true, Option.some.injEq, Sum.inl.injEq, Sum.inr.injEq, true_or, or_true, and_self, q_sw]
  refine ⟨_, _, (by decide : 0 < 1), c_skipBlanks l S h, fun S1 hR => ?_⟩
  obtain ⟨⟨h1, h2, h3⟩, ⟨g1, g2, g3, g4, g5⟩, h5⟩ := hR.1
  rw [g3, g2, nI_ltI (by omega) (by omega)]
  refine ⟨fun h => ⟨?_, hR⟩, fun h => ⟨?_, hR⟩⟩
  · rw [decide_eq_false (by omega)]; rfl
  · rw [decide_eq_true (by omega)]; rfl
theorem hr_lt {S : qSt} {T : Nat → Nat} {n a : Nat} {e : Option (Nat × Nat)} (h : RD S T n a e) : ∀ c, hr T n a = some c → c < 256 := fun c hc => by
  obtain ⟨⟨h1, h2, h3⟩, -, h5⟩ := h
  unfold hr at hc
  split at hc
  · cases hc
    exact (h5 a (by omega)).1
  · cases hc
theorem c_isDigitHere (l : Launch) (S : qSt) {T : Nat → Nat} {n a : Nat} {e : Option (Nat × Nat)} (h : RD S T n a e) : q_Met q_mt l 1 k_X4_isDigitHere 1 [.inr (.inr (1, 0))] S (fun r S' => r = some (.inl (bI (tb T n isd a))) ∧ S' = S) := by
  refine q_meth zoX4_isDigitHere q_fos (Nat.le_of_ble_eq_true rfl) ?_
  intro AT step
  refine step 20 [] 0 _ _ _ ?_
  simp only [q_vcs, q_vcc, q_vl, q_vu, ↓reduceIte, Nat.reduceEqDiff, Bool.false_eq_true, q_isc, q_mk, q_msk, zbX4_isDigitHere, q_pad, q_ent, q_get, q_put, q_nl, q_w, List.cons_append, List.nil_append, q_aks, q_als, Nat.reduceAdd, Nat.reduceLeDiff, Nat.zero_le, true_and, and_true, Option.some.injEq, Sum.inl.injEq, Sum.inr.injEq, true_or, or_true, and_self, q_sw]
  refine q_u1 (by decide) (c_here l S h) ?_
  rw [tb_hr]
  have hl := hr_lt h
  cases hh : hr T n a with
  | none => exact ⟨fun _ => ⟨rfl, rfl⟩, fun h => absurd (by decide) h⟩
  | some c =>
    have hc := hl c hh
    rw [show oI (some c) = nI c from rfl, show (48 : Int32) = nI 48 from rfl, show (57 : Int32) = nI 57 from rfl, nI_ltI (by omega) (by omega), nI_ltI (by omega) (by omega)]
    refine ⟨fun h => ?_, fun h => ⟨fun h' => ?_, fun h' => ?_⟩⟩
    · have : isd c = false := by unfold isd; simp; omega
      simp [this]; rfl
    · have : isd c = false := by unfold isd; simp; omega
      simp [this]; rfl
    · have : isd c = true := by unfold isd; simp; omega
      simp [this]; rfl
theorem hr_eq {S : qSt} {T : Nat → Nat} {n a : Nat} {e : Option (Nat × Nat)} (h : RD S T n a e) {c : Nat} (hc : c < 256) : oI (hr T n a) = nI c ↔ hr T n a = some c := by
  have hl := hr_lt h
  cases hh : hr T n a with
  | none =>
    refine ⟨fun h => ?_, fun h => by cases h⟩
    exact absurd h.symm (i_ne1 (by omega))
  | some x =>
    have := hl x hh
    rw [show oI (some x) = nI x from rfl, nI_eq (by omega) (by omega)]
    simp
theorem c_isNext (l : Launch) (S : qSt) {T : Nat → Nat} {n a c : Nat} {e : Option (Nat × Nat)} (h : RD S T n a e) (hc : c < 256) : q_Met q_mt l 1 k_X4_isNext 1 [.inr (.inr (1, 0)), .inl (nI c)] S (fun r S' => r = some (.inl (bI (decide (hr T n (tx T n isb a) = some c)))) ∧ RP S S' T n (tx T n isb a) e) := by
  refine q_meth zoX4_isNext q_fos (Nat.le_of_ble_eq_true rfl) ?_
  intro AT step
  refine step 20 [] 0 _ _ _ ?_
  simp only [q_vcs, q_vcc, q_vl, q_vu, ↓reduceIte, Nat.reduceEqDiff, Bool.false_eq_true, q_isc, q_mk, q_msk, zbX4_isNext, q_pad, q_ent, q_get, q_put, q_nl, q_w, List.cons_append, List.nil_append, q_aks, q_als, Nat.reduceAdd, Nat.reduceLeDiff, Nat.zero_le, true_and, and_true, Option.some.injEq, Sum.inl.injEq, Sum.inr.injEq, true_or, or_true, and_self, q_sw]
  refine ⟨_, _, (by decide : 0 < 1), c_skipBlanks l S h, fun S1 hR => ?_⟩
  refine q_u1 (by decide) (c_here l S1 hR.1) ?_
  rw [hr_eq hR.1 hc]
  refine ⟨fun h => ⟨?_, hR⟩, fun h => ⟨?_, hR⟩⟩
  · rw [decide_eq_false h]; rfl
  · rw [decide_eq_true h]; rfl
/-- a sign is taken, if it stands there -/
def skf (T : Nat → Nat) (n a : Nat) (e : Option (Nat × Nat)) (c : Nat) : Bool := e.isNone && decide (hr T n (tx T n isb a) = some c)
theorem hr_some {T : Nat → Nat} {n a c : Nat} (h : hr T n a = some c) : a < n ∧ T a = c := by
  unfold hr at h
  split at h
  · cases h; exact ⟨by assumption, rfl⟩
  · cases h
theorem c_skipIf (l : Launch) (S : qSt) {T : Nat → Nat} {n a c : Nat} {e : Option (Nat × Nat)} (h : RD S T n a e) (hc : c < 256) : q_Met q_mt l 2 k_X4_skipIf 1 [.inr (.inr (1, 0)), .inl (nI c)] S (fun r S' => r = some (.inl (bI (skf T n a e c))) ∧ RP S S' T n (if skf T n a e c then tx T n isb a + 1 else if e.isNone then tx T n isb a else a) e) := by
  refine q_meth zoX4_skipIf q_fos (Nat.le_of_ble_eq_true rfl) ?_
  intro AT step
  refine step 20 [] 0 _ _ _ ?_
  simp only [q_vcs, q_vcc, q_vl, q_vu, ↓reduceIte, Nat.reduceEqDiff, Bool.false_eq_true, q_isc, q_mk, q_msk, zbX4_skipIf, q_pad, q_ent, q_get, q_put, q_nl, q_w, List.cons_append, List.nil_append, q_aks, q_als, Nat.reduceAdd, Nat.reduceLeDiff, Nat.zero_le, true_and, and_true, Option.some.injEq, Sum.inl.injEq, Sum.inr.injEq, true_or, or_true, and_self, q_sw]
  rw [ek_0 h]
  unfold skf
  cases e with
  | some q => exact ⟨fun _ => ⟨rfl, by simpa using RP.rf h⟩, fun h => by cases h⟩
  | none =>
    refine ⟨fun h => absurd rfl h, fun _ => ⟨_, _, (by decide : 1 < 2), c_isNext l S h hc, fun v S1 hR => ?_⟩⟩
    obtain ⟨hv, hR⟩ := hR
    cases hv
    rw [show (¬ bI (decide (hr T n (tx T n isb a) = some c)) = 0) ↔ hr T n (tx T n isb a) = some c by rw [bI_0]; simp, bI_0]
    refine ⟨fun h' => ?_, fun h' => ?_⟩
    · obtain ⟨k1, k2⟩ := hr_some h'
      have g3 := hR.1.2.1.2.2.1
      rw [g3, nI_1]
      simp only [h', Option.isNone_none, decide_true, Bool.and_true, if_true]
      exact ⟨rfl, hR.tr (hR.1.at (by omega))⟩
    · have h'' : ¬ hr T n (tx T n isb a) = some c := by simpa using h'
      simp only [h'', Option.isNone_none, decide_false, Bool.and_false, Bool.false_eq_true, if_false, if_true]
      exact ⟨rfl, hR⟩
/-- a sign that must stand there -/
def sgn (T : Nat → Nat) (n a c : Nat) (e : Option (Nat × Nat)) : Nat × Option (Nat × Nat) := if hr T n (tx T n isb a) = some c then (tx T n isb a + 1, e) else (tx T n isb a, fal e 1 (tx T n isb a))
theorem c_readSign (l : Launch) (S : qSt) {T : Nat → Nat} {n a c : Nat} {e : Option (Nat × Nat)} (h : RD S T n a e) (hc : c < 256) : q_Met q_mt l 1 k_X4_readSign 0 [.inr (.inr (1, 0)), .inl (nI c)] S (fun _ S' => RP S S' T n (sgn T n a c e).1 (sgn T n a c e).2) := by
  refine q_meth zoX4_readSign q_fos (Nat.le_of_ble_eq_true rfl) ?_
  intro AT step
  refine step 20 [] 0 _ _ _ ?_
  simp only [q_vcs, q_vcc, q_vl, q_vu, ↓reduceIte, Nat.reduceEqDiff, Bool.false_eq_true, q_isc, q_mk, q_msk, zbX4_readSign, q_pad, q_ent, q_get, q_put, q_nl, q_w, List.cons_append, List.nil_append, q_aks, q_als, Nat.reduceAdd, Nat.reduceLeDiff, Nat.zero_le, true_and, and_true, Option.some.injEq, Sum.inl.injEq, Sum.inr.injEq, true_or, or_true, and_self, q_sw]
  refine ⟨_, _, (by decide : 0 < 1), c_skipBlanks l S h, fun S1 hR => ?_⟩
  refine q_u1 (by decide) (c_here l S1 hR.1) ?_
  rw [hr_eq hR.1 hc, hR.1.2.1.2.2.1]
  unfold sgn
  refine ⟨fun h => ?_, fun h => ?_⟩
  · rw [if_neg h]
    have hn := hR.1.1
    exact ⟨_, _, (by decide : 0 < 1), c_fail l S1 (k := 1) hR.1 (by decide) (by omega), fun S2 h2 => hR.tr h2⟩
  · obtain ⟨k1, k2⟩ := hr_some h
    rw [if_pos h, nI_1]
    exact hR.tr (hR.1.at (by omega))
