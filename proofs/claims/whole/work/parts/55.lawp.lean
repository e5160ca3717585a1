/-! the law's text: signs behind their operands -/
abbrev Tok : Type := Nat × Nat
abbrev LR2 : Type := Option (PS × List Tok)
def andT (r : LR2) (k : Nat → List Tok → LR2) : LR2 := match r with
  | none => none
  | some (.inl b, c) => k b c
  | some (.inr q, c) => some (.inr q, c)
def sop (T : Nat → Nat) (n b : Nat) : Option Nat := if hr T n b = some 43 then some 2 else if hr T n b = some 45 then some 3 else none
def pop (T : Nat → Nat) (n b : Nat) : Option Nat := if hr T n b = some 42 then some 4 else if hr T n b = some 47 then some 5 else if hr T n b = some 37 then some 6 else none
/-- the fact whose name stands there -/
def fct (T : Nat → Nat) (b e : Nat) : Option Nat := if seg T b e = sw 7 then some 0 else if seg T b e = sw 8 then some 1 else if seg T b e = sw 9 then some 2 else if seg T b e = sw 4 then some 3 else if seg T b e = sw 3 then some 4 else if seg T b e = sw 10 then some 5 else if seg T b e = sw 11 then some 6 else if seg T b e = sw 12 then some 7 else none
/-- least and most -/
def two (T : Nat → Nat) (b e : Nat) : Option Nat := if seg T b e = sw 13 then some 7 else if seg T b e = sw 14 then some 8 else none
/-- modes: 0 a sum, 1 a sum's rest, 2 a product, 3 its rest, 4 a unit -/
def lp (T : Nat → Nat) (n : Nat) : Nat → Nat → Nat → Nat → List Tok → LR2
  | 0, _, _, _, _ => none
  | f + 1, 0, o, a, c => andT (lp T n f 2 o a c) (fun b c => lp T n f 1 o b c)
  | f + 1, 1, o, a, c => match sop T n (tx T n isb a) with
    | some k => andT (lp T n f 2 o (tx T n isb a + 1) c) (fun b c => lp T n f 1 o b (c ++ [(k, 0)]))
    | none => some (.inl (tx T n isb a), c)
  | f + 1, 2, o, a, c => andT (lp T n f 4 o a c) (fun b c => lp T n f 3 o b c)
  | f + 1, 3, o, a, c => match pop T n (tx T n isb a) with
    | some k => andT (lp T n f 4 o (tx T n isb a + 1) c) (fun b c => lp T n f 3 o b (c ++ [(k, 0)]))
    | none => some (.inl (tx T n isb a), c)
  | f + 1, _, o, a, c => if hr T n (tx T n isb a) = some 40 then (if 6 ≤ o then some (.inr (3, tx T n isb a), c) else andT (lp T n f 0 (o + 1) (tx T n isb a + 1) c) (fun b c => some (psg T n 41 (.inl b), c)))
    else if tb T n isd (tx T n isb a) = true then some (pnm T n 0 1000 (.inl (tx T n isb a)), c ++ [(0, nmN T n (tx T n isb a))])
    else match fct T (tx T n isb a) (tx T n isl (tx T n isb a)) with
      | some k => some (.inl (tx T n isl (tx T n isb a)), c ++ [(1, k)])
      | none => match two T (tx T n isb a) (tx T n isl (tx T n isb a)) with
        | some k => if 6 ≤ o then some (.inr (3, tx T n isb a), c) else andT (some (psg T n 91 (.inl (tx T n isl (tx T n isb a))), c)) (fun b1 c => andT (lp T n f 0 (o + 1) b1 c) (fun b2 c => andT (some (psg T n 44 (.inl b2), c)) (fun b3 c => andT (lp T n f 0 (o + 1) b3 c) (fun b4 c => some (psg T n 93 (.inl b4), c ++ [(k, 0)])))))
        | none => some (.inr (1, tx T n isb a), c)
theorem andT_inl {r : LR2} {k : Nat → List Tok → LR2} {b : Nat} {c : List Tok} (h : andT r k = some (.inl b, c)) : ∃ b1 c1, r = some (.inl b1, c1) ∧ k b1 c1 = some (.inl b, c) := by
  unfold andT at h
  split at h
  · cases h
  · exact ⟨_, _, rfl, h⟩
  · cases h
theorem andT_cases {r : LR2} {k : Nat → List Tok → LR2} {x : PS × List Tok} (h : andT r k = some x) : (∃ b1 c1, r = some (.inl b1, c1) ∧ k b1 c1 = some x) ∨ ∃ q c1, r = some (.inr q, c1) ∧ x = (.inr q, c1) := by
  unfold andT at h
  split at h
  · cases h
  · exact Or.inl ⟨_, _, rfl, h⟩
  · cases h; exact Or.inr ⟨_, _, rfl, rfl⟩
theorem sop_lt {T : Nat → Nat} {n b k : Nat} (h : sop T n b = some k) : b < n ∧ (k = 2 ∨ k = 3) := by
  unfold sop at h
  split at h
  · rename_i h1; cases h; exact ⟨(hr_some h1).1, Or.inl rfl⟩
  · split at h
    · rename_i h1; cases h; exact ⟨(hr_some h1).1, Or.inr rfl⟩
    · cases h
theorem pop_lt {T : Nat → Nat} {n b k : Nat} (h : pop T n b = some k) : b < n ∧ 4 ≤ k ∧ k ≤ 6 := by
  unfold pop at h
  split at h
  · rename_i h1; cases h; exact ⟨(hr_some h1).1, by decide, by decide⟩
  · split at h
    · rename_i h1; cases h; exact ⟨(hr_some h1).1, by decide, by decide⟩
    · split at h
      · rename_i h1; cases h; exact ⟨(hr_some h1).1, by decide, by decide⟩
      · cases h
theorem sw_len : ∀ i, i < 20 → 3 ≤ (sw i).length := by decide
theorem seg_lt {T : Nat → Nat} {b e i : Nat} (hi : i < 20) (h : seg T b e = sw i) : b + 3 ≤ e := by
  have h1 := sw_len i hi
  rw [← h] at h1
  unfold seg at h1
  simp at h1
  omega
theorem fct_lt {T : Nat → Nat} {b e k : Nat} (h : fct T b e = some k) : b + 3 ≤ e ∧ k < 8 := by
  unfold fct at h
  repeat' split at h
  all_goals first | (cases h; rename_i h1; exact ⟨seg_lt (by decide) h1, by decide⟩) | cases h
theorem two_lt {T : Nat → Nat} {b e k : Nat} (h : two T b e = some k) : b + 3 ≤ e ∧ (k = 7 ∨ k = 8) := by
  unfold two at h
  repeat' split at h
  all_goals first | (cases h; rename_i h1; exact ⟨seg_lt (by decide) h1, by decide⟩) | cases h
/-- what a reading goes on: places, tokens -/
theorem lp_len (T : Nat → Nat) (n : Nat) : ∀ (f m o a : Nat) (c : List Tok) (b : Nat) (c' : List Tok), lp T n f m o a c = some (.inl b, c') → a ≤ n → a ≤ b ∧ b ≤ n ∧ c'.length + a ≤ c.length + b ∧ (m ≠ 1 → m ≠ 3 → a < b) := by
  intro f
  induction f with
  | zero => intro m o a c b c' h; cases h
  | succ f ih =>
    intro m o a c b c' h ha
    have h1 := tx_ge T n isb a
    have h2 : tx T n isb a ≤ n := tx_le ha
    match m, h with
    | 0, h =>
      obtain ⟨b1, c1, e1, e2⟩ := andT_inl (show andT (lp T n f 2 o a c) _ = _ from h)
      have g1 := ih 2 o a c b1 c1 e1 ha
      have g2 := ih 1 o b1 c1 b c' e2 g1.2.1
      have := g1.2.2.2 (by decide) (by decide)
      omega
    | 1, h =>
      rw [lp] at h
      cases hs : sop T n (tx T n isb a) with
      | none =>
        rw [hs] at h
        cases h
        omega
      | some k =>
        rw [hs] at h
        have hk := sop_lt hs
        obtain ⟨b1, c1, e1, e2⟩ := andT_inl h
        have g1 := ih 2 o _ c b1 c1 e1 (by omega)
        have g2 := ih 1 o b1 _ b c' e2 g1.2.1
        simp only [List.length_append, List.length_cons, List.length_nil] at g2
        omega
    | 2, h =>
      obtain ⟨b1, c1, e1, e2⟩ := andT_inl (show andT (lp T n f 4 o a c) _ = _ from h)
      have g1 := ih 4 o a c b1 c1 e1 ha
      have g2 := ih 3 o b1 c1 b c' e2 g1.2.1
      have := g1.2.2.2 (by decide) (by decide)
      omega
    | 3, h =>
      rw [lp] at h
      cases hs : pop T n (tx T n isb a) with
      | none =>
        rw [hs] at h
        cases h
        omega
      | some k =>
        rw [hs] at h
        have hk := pop_lt hs
        obtain ⟨b1, c1, e1, e2⟩ := andT_inl h
        have g1 := ih 4 o _ c b1 c1 e1 (by omega)
        have g2 := ih 3 o b1 _ b c' e2 g1.2.1
        simp only [List.length_append, List.length_cons, List.length_nil] at g2
        omega
    | m + 4, h =>
      rw [lp] at h <;> try (intro q; omega)
      split at h
      · rename_i hb
        have hb := (hr_some hb).1
        split at h
        · cases h
        · obtain ⟨b1, c1, e1, e2⟩ := andT_inl h
          have g1 := ih 0 (o + 1) _ c b1 c1 e1 (by omega)
          have e3 : psg T n 41 (.inl b1) = .inl b := by
            have := congrArg (fun x => x.map Prod.fst) e2
            simpa using this
          have e4 : c1 = c' := by
            have := congrArg (fun x => x.map Prod.snd) e2
            simpa using this
          obtain ⟨x, hx, g2, g3⟩ := psg_lt e3
          cases hx
          have := g3 g1.2.1
          subst e4
          omega
      · split at h
        · have e3 : pnm T n 0 1000 (.inl (tx T n isb a)) = .inl b := by
            have := congrArg (fun x => x.map Prod.fst) h
            simpa using this
          have e4 : c ++ [(0, nmN T n (tx T n isb a))] = c' := by
            have := congrArg (fun x => x.map Prod.snd) h
            simpa using this
          obtain ⟨x, hx, g2, g3⟩ := pnm_lt e3
          cases hx
          have := g3 h2
          subst e4
          simp only [List.length_append, List.length_cons, List.length_nil]
          omega
        · have hw := tx_ge T n isl (tx T n isb a)
          have hw2 : tx T n isl (tx T n isb a) ≤ n := tx_le h2
          cases hf : fct T (tx T n isb a) (tx T n isl (tx T n isb a)) with
          | some k =>
            rw [hf] at h
            have := fct_lt hf
            cases h
            simp only [List.length_append, List.length_cons, List.length_nil]
            omega
          | none =>
            rw [hf] at h
            dsimp only at h
            cases ht : two T (tx T n isb a) (tx T n isl (tx T n isb a)) with
            | none => rw [ht] at h; cases h
            | some k =>
              rw [ht] at h
              dsimp only at h
              have htw := two_lt ht
              split at h
              · cases h
              · obtain ⟨b1, c1, e1, h⟩ := andT_inl h
                have e1a : psg T n 91 (.inl (tx T n isl (tx T n isb a))) = .inl b1 := by
                  have := congrArg (fun x => x.map Prod.fst) e1
                  simpa using this
                have e1b : c = c1 := by
                  have := congrArg (fun x => x.map Prod.snd) e1
                  simpa using this
                subst e1b
                obtain ⟨x, hx, p1, p2⟩ := psg_lt e1a
                cases hx
                have p2 := p2 hw2
                obtain ⟨b2, c2, e2, h⟩ := andT_inl h
                have g1 := ih 0 (o + 1) _ _ b2 c2 e2 p2
                obtain ⟨b3, c3, e3, h⟩ := andT_inl h
                have e3a : psg T n 44 (.inl b2) = .inl b3 := by
                  have := congrArg (fun x => x.map Prod.fst) e3
                  simpa using this
                have e3b : c2 = c3 := by
                  have := congrArg (fun x => x.map Prod.snd) e3
                  simpa using this
                subst e3b
                obtain ⟨x, hx, p3, p4⟩ := psg_lt e3a
                cases hx
                have p4 := p4 g1.2.1
                obtain ⟨b4, c4, e4, h⟩ := andT_inl h
                have g2 := ih 0 (o + 1) _ _ b4 c4 e4 p4
                have e5a : psg T n 93 (.inl b4) = .inl b := by
                  have := congrArg (fun x => x.map Prod.fst) h
                  simpa using this
                have e5b : c4 ++ [(k, 0)] = c' := by
                  have := congrArg (fun x => x.map Prod.snd) h
                  simpa using this
                subst e5b
                obtain ⟨x, hx, p5, p6⟩ := psg_lt e5a
                cases hx
                have p6 := p6 g2.2.1
                simp only [List.length_append, List.length_cons, List.length_nil]
                omega
theorem lp_0 (T : Nat → Nat) (n f o a : Nat) (c : List Tok) : lp T n (f + 1) 0 o a c = andT (lp T n f 2 o a c) (fun b c => lp T n f 1 o b c) := rfl
theorem lp_2 (T : Nat → Nat) (n f o a : Nat) (c : List Tok) : lp T n (f + 1) 2 o a c = andT (lp T n f 4 o a c) (fun b c => lp T n f 3 o b c) := rfl
theorem lp_1s {T : Nat → Nat} {n a k : Nat} (h : sop T n (tx T n isb a) = some k) (f o : Nat) (c : List Tok) : lp T n (f + 1) 1 o a c = andT (lp T n f 2 o (tx T n isb a + 1) c) (fun b c => lp T n f 1 o b (c ++ [(k, 0)])) := by rw [lp, h]
theorem lp_1n {T : Nat → Nat} {n a : Nat} (h : sop T n (tx T n isb a) = none) (f o : Nat) (c : List Tok) : lp T n (f + 1) 1 o a c = some (.inl (tx T n isb a), c) := by rw [lp, h]
theorem lp_3s {T : Nat → Nat} {n a k : Nat} (h : pop T n (tx T n isb a) = some k) (f o : Nat) (c : List Tok) : lp T n (f + 1) 3 o a c = andT (lp T n f 4 o (tx T n isb a + 1) c) (fun b c => lp T n f 3 o b (c ++ [(k, 0)])) := by rw [lp, h]
theorem lp_3n {T : Nat → Nat} {n a : Nat} (h : pop T n (tx T n isb a) = none) (f o : Nat) (c : List Tok) : lp T n (f + 1) 3 o a c = some (.inl (tx T n isb a), c) := by rw [lp, h]
theorem lp_4b {T : Nat → Nat} {n a o : Nat} (h : hr T n (tx T n isb a) = some 40) (h6 : 6 ≤ o) (f : Nat) (c : List Tok) : lp T n (f + 1) 4 o a c = some (.inr (3, tx T n isb a), c) := by
  rw [lp, if_pos h, if_pos h6] <;> (intro q; omega)
theorem lp_4c {T : Nat → Nat} {n a o : Nat} (h : hr T n (tx T n isb a) = some 40) (h6 : ¬ 6 ≤ o) (f : Nat) (c : List Tok) : lp T n (f + 1) 4 o a c = andT (lp T n f 0 (o + 1) (tx T n isb a + 1) c) (fun b c => some (psg T n 41 (.inl b), c)) := by
  rw [lp, if_pos h, if_neg h6] <;> (intro q; omega)
theorem lp_4d {T : Nat → Nat} {n a : Nat} (h : ¬ hr T n (tx T n isb a) = some 40) (hd : tb T n isd (tx T n isb a) = true) (f o : Nat) (c : List Tok) : lp T n (f + 1) 4 o a c = some (pnm T n 0 1000 (.inl (tx T n isb a)), c ++ [(0, nmN T n (tx T n isb a))]) := by
  rw [lp, if_neg h, if_pos hd] <;> (intro q; omega)
theorem lp_4f {T : Nat → Nat} {n a k : Nat} (h : ¬ hr T n (tx T n isb a) = some 40) (hd : ¬ tb T n isd (tx T n isb a) = true) (hf : fct T (tx T n isb a) (tx T n isl (tx T n isb a)) = some k) (f o : Nat) (c : List Tok) : lp T n (f + 1) 4 o a c = some (.inl (tx T n isl (tx T n isb a)), c ++ [(1, k)]) := by
  rw [lp, if_neg h, if_neg hd, hf] <;> (intro q; omega)
theorem lp_4t {T : Nat → Nat} {n a k o : Nat} (h : ¬ hr T n (tx T n isb a) = some 40) (hd : ¬ tb T n isd (tx T n isb a) = true) (hf : fct T (tx T n isb a) (tx T n isl (tx T n isb a)) = none) (ht : two T (tx T n isb a) (tx T n isl (tx T n isb a)) = some k) (h6 : 6 ≤ o) (f : Nat) (c : List Tok) : lp T n (f + 1) 4 o a c = some (.inr (3, tx T n isb a), c) := by
  rw [lp, if_neg h, if_neg hd, hf] <;> try (intro q; omega)
  dsimp only
  rw [ht]
  dsimp only
  rw [if_pos h6]
theorem lp_4u {T : Nat → Nat} {n a k o : Nat} (h : ¬ hr T n (tx T n isb a) = some 40) (hd : ¬ tb T n isd (tx T n isb a) = true) (hf : fct T (tx T n isb a) (tx T n isl (tx T n isb a)) = none) (ht : two T (tx T n isb a) (tx T n isl (tx T n isb a)) = some k) (h6 : ¬ 6 ≤ o) (f : Nat) (c : List Tok) : lp T n (f + 1) 4 o a c = andT (some (psg T n 91 (.inl (tx T n isl (tx T n isb a))), c)) (fun b1 c => andT (lp T n f 0 (o + 1) b1 c) (fun b2 c => andT (some (psg T n 44 (.inl b2), c)) (fun b3 c => andT (lp T n f 0 (o + 1) b3 c) (fun b4 c => some (psg T n 93 (.inl b4), c ++ [(k, 0)]))))) := by
  rw [lp, if_neg h, if_neg hd, hf] <;> try (intro q; omega)
  dsimp only
  rw [ht]
  dsimp only
  rw [if_neg h6]
theorem lp_4n {T : Nat → Nat} {n a : Nat} (h : ¬ hr T n (tx T n isb a) = some 40) (hd : ¬ tb T n isd (tx T n isb a) = true) (hf : fct T (tx T n isb a) (tx T n isl (tx T n isb a)) = none) (ht : two T (tx T n isb a) (tx T n isl (tx T n isb a)) = none) (f o : Nat) (c : List Tok) : lp T n (f + 1) 4 o a c = some (.inr (1, tx T n isb a), c) := by
  rw [lp, if_neg h, if_neg hd, hf] <;> try (intro q; omega)
  dsimp only
  rw [ht]
theorem andT_mono {r r' : LR2} {k k' : Nat → List Tok → LR2} {x : PS × List Tok} (h : andT r k = some x) (hr : ∀ y, r = some y → r' = some y) (hk : ∀ b c, k b c = some x → k' b c = some x) : andT r' k' = some x := by
  rcases andT_cases h with ⟨b, c, h1, h2⟩ | ⟨q, c, h1, h2⟩
  · rw [hr _ h1]
    exact hk b c h2
  · rw [hr _ h1, h2]
    rfl
/-- more fuel, the same -/
theorem lp_mono (T : Nat → Nat) (n : Nat) : ∀ (f m o a : Nat) (c : List Tok) (x : PS × List Tok), lp T n f m o a c = some x → lp T n (f + 1) m o a c = some x := by
  intro f
  induction f with
  | zero => intro m o a c x h; cases h
  | succ f ih =>
    intro m o a c x h
    match m, h with
    | 0, h =>
      rw [lp_0] at h ⊢
      exact andT_mono h (fun y hy => ih _ _ _ _ _ hy) (fun b c hb => ih _ _ _ _ _ hb)
    | 1, h =>
      cases hs : sop T n (tx T n isb a) with
      | none => rw [lp_1n hs] at h ⊢; exact h
      | some k =>
        rw [lp_1s hs] at h ⊢
        exact andT_mono h (fun y hy => ih _ _ _ _ _ hy) (fun b c hb => ih _ _ _ _ _ hb)
    | 2, h =>
      rw [lp_2] at h ⊢
      exact andT_mono h (fun y hy => ih _ _ _ _ _ hy) (fun b c hb => ih _ _ _ _ _ hb)
    | 3, h =>
      cases hs : pop T n (tx T n isb a) with
      | none => rw [lp_3n hs] at h ⊢; exact h
      | some k =>
        rw [lp_3s hs] at h ⊢
        exact andT_mono h (fun y hy => ih _ _ _ _ _ hy) (fun b c hb => ih _ _ _ _ _ hb)
    | m + 4, h =>
      rw [lp] at h <;> try (intro q; omega)
      rw [lp] <;> try (intro q; omega)
      split at h
      · rename_i hb
        rw [if_pos hb]
        split at h
        · rename_i h6; rw [if_pos h6]; exact h
        · rename_i h6
          rw [if_neg h6]
          exact andT_mono h (fun y hy => ih _ _ _ _ _ hy) (fun b c hb => hb)
      · rename_i hb
        rw [if_neg hb]
        split at h
        · rename_i hd; rw [if_pos hd]; exact h
        · rename_i hd
          rw [if_neg hd]
          cases hf : fct T (tx T n isb a) (tx T n isl (tx T n isb a)) with
          | some k => rw [hf] at h; exact h
          | none =>
            rw [hf] at h
            dsimp only at h ⊢
            cases ht : two T (tx T n isb a) (tx T n isl (tx T n isb a)) with
            | none => rw [ht] at h; exact h
            | some k =>
              rw [ht] at h
              dsimp only at h ⊢
              split at h
              · rename_i h6; rw [if_pos h6]; exact h
              · rename_i h6
                rw [if_neg h6]
                exact andT_mono h (fun y hy => hy) (fun b c hb => andT_mono hb (fun y hy => ih _ _ _ _ _ hy) (fun b c hb => andT_mono hb (fun y hy => hy) (fun b c hb => andT_mono hb (fun y hy => ih _ _ _ _ _ hy) (fun b c hb => hb))))
theorem lp_monoN (T : Nat → Nat) (n : Nat) {f m o a : Nat} {c : List Tok} {x : PS × List Tok} (h : lp T n f m o a c = some x) : ∀ k, lp T n (f + k) m o a c = some x
  | 0 => h
  | k + 1 => lp_mono T n (f + k) m o a c x (lp_monoN T n h k)
theorem lp_max (T : Nat → Nat) (n : Nat) {f g m o a : Nat} {c : List Tok} {x : PS × List Tok} (h : lp T n f m o a c = some x) (hg : f ≤ g) : lp T n g m o a c = some x := by
  have := lp_monoN T n h (g - f)
  rwa [show f + (g - f) = g by omega] at this
