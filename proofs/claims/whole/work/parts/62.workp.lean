/-! Work: what its text means -/
/-- begun, done, refused; the cars -/
abbrev WS : Type := Nat × Nat × Nat × PV
abbrev WF : Type := WS → WS
/-- a step: what becomes of the cars, none: refused -/
def stp (Y : YD) (cd : List Tok) (k a b c : Nat) (V : PV) : Option PV := match k with
  | 0 => if (lnof V.1 a).isSome ∨ rmZ Y V.1 b < lgt Y a then none else some (sp V.1 b (a :: V.1 b), V.2.1, V.2.2)
  | 1 => match (V.1 b).head? with
    | none => none
    | some f => if b = c ∨ (kyt Y a).testBit f = false ∨ rmZ Y V.1 c < lgt Y f then none
      else some (mvc V.1 b c f, V.2.1 + secn (lvv (fcs Y V f (if a = f then 1 else 0)) cd), fun x => if x = f then V.2.2 f + 1 else V.2.2 x)
  | 2 => match (V.1 b).head? with
    | none => none
    | some _ => some (sp V.1 b (V.1 b).tail, V.2.1, V.2.2)
  | _ => if es (cho Y V.1) = es V.1 then none else some (cho Y V.1, V.2.1, V.2.2)
def stf (Y : YD) (cd : List Tok) (k a b c : Nat) : WF := fun s => if 200 ≤ s.1 then s else match stp Y cd k a b c s.2.2.2 with
  | some V => (s.1 + 1, s.2.1 + 1, s.2.2.1, V)
  | none => (s.1 + 1, s.2.1, s.2.2.1 + 1, s.2.2.2)
def itr (X : WF) : Nat → WF
  | 0 => id
  | n + 1 => fun s => itr X n (X s)
def agf (N : Nat) (X : WF) : WF := fun s => if 200 ≤ s.1 then s else itr X N (s.1 + 1, s.2)
abbrev WR : Type := Option (PS × WF)
def andW (r : WR) (k : Nat → WF → WR) : WR := match r with
  | none => none
  | some (.inl b, c) => k b c
  | some (.inr q, c) => some (.inr q, c)
theorem andW_inl {r : WR} {k : Nat → WF → WR} {b : Nat} {c : WF} (h : andW r k = some (.inl b, c)) : ∃ b1 c1, r = some (.inl b1, c1) ∧ k b1 c1 = some (.inl b, c) := by
  unfold andW at h
  split at h
  · cases h
  · exact ⟨_, _, rfl, h⟩
  · cases h
theorem andW_cases {r : WR} {k : Nat → WF → WR} {x : PS × WF} (h : andW r k = some x) : (∃ b1 c1, r = some (.inl b1, c1) ∧ k b1 c1 = some x) ∨ ∃ q c1, r = some (.inr q, c1) ∧ x = (.inr q, c1) := by
  unfold andW at h
  split at h
  · cases h
  · exact Or.inl ⟨_, _, rfl, h⟩
  · cases h; exact Or.inr ⟨_, _, rfl, rfl⟩
theorem andW_mono {r r' : WR} {k k' : Nat → WF → WR} {x : PS × WF} (h : andW r k = some x) (hr : ∀ y, r = some y → r' = some y) (hk : ∀ b c, k b c = some x → k' b c = some x) : andW r' k' = some x := by
  rcases andW_cases h with ⟨b, c, h1, h2⟩ | ⟨q, c, h1, h2⟩
  · rw [hr _ h1]
    exact hk b c h2
  · rw [hr _ h1, h2]
    rfl
/-- the kind of a step, by its word -/
def skd (T : Nat → Nat) (b e : Nat) : Option Nat := if seg T b e = sw 15 then some 0 else if seg T b e = sw 16 then some 1 else if seg T b e = sw 17 then some 2 else if seg T b e = sw 18 then some 3 else if seg T b e = sw 19 then some 4 else none
theorem skd_lt {T : Nat → Nat} {b e k : Nat} (h : skd T b e = some k) : b + 3 ≤ e ∧ k ≤ 4 := by
  unfold skd at h
  repeat' split at h
  all_goals first | (cases h; rename_i h1; exact ⟨seg_lt (by decide) h1, by decide⟩) | cases h
/-- whether the steps end here -/
def sen (T : Nat → Nat) (n o b : Nat) : Bool := if o = 0 then decide (n ≤ b) else decide (hr T n b = some 93)
/-- what stands behind a plain step's word, and what it means -/
def sbd (T : Nat → Nat) (n : Nat) (Y : YD) (cd : List Tok) (e k : Nat) : PS × WF := match k with
  | 0 => (pnm T n 0 (Y 0 0) (pnm T n 0 (Y 1 0) (.inl e)), stf Y cd 0 (nmN T n e) (pvl T n (pnm T n 0 (Y 1 0) (.inl e))) 0)
  | 1 => (pnm T n 0 (Y 0 0) (pnm T n 0 (Y 0 0) (pnm T n 0 (Y 1 0) (.inl e))), stf Y cd 1 (nmN T n e) (pvl T n (pnm T n 0 (Y 1 0) (.inl e))) (pvl T n (pnm T n 0 (Y 0 0) (pnm T n 0 (Y 1 0) (.inl e)))))
  | 2 => (pnm T n 0 (Y 0 0) (.inl e), stf Y cd 2 0 (nmN T n e) 0)
  | _ => (.inl e, stf Y cd 3 0 0 0)
/-- mode 0: steps; else one step, without its sign -/
def wp (T : Nat → Nat) (n : Nat) (Y : YD) (cd : List Tok) : Nat → Nat → Nat → Nat → WR
  | 0, _, _, _ => none
  | f + 1, 0, o, a => if sen T n o (tx T n isb a) = true then some (.inl (tx T n isb a), id)
    else andW (wp T n Y cd f 1 o (tx T n isb a)) (fun b X => andW (some (psg T n 59 (.inl b), id)) (fun b2 _ => andW (wp T n Y cd f 0 o b2) (fun b3 X2 => some (.inl b3, fun s => X2 (X s)))))
  | f + 1, _, o, a => match skd T (tx T n isb a) (tx T n isl (tx T n isb a)) with
    | none => some (.inr (1, tx T n isb a), id)
    | some k => if k = 4 then (if 6 ≤ o then some (.inr (3, tx T n isb a), id) else andW (some (psg T n 91 (pnm T n 0 31 (.inl (tx T n isl (tx T n isb a)))), id)) (fun b2 _ => andW (wp T n Y cd f 0 (o + 1) b2) (fun b3 X => some (psg T n 93 (.inl b3), agf (nmN T n (tx T n isl (tx T n isb a))) X))))
      else some (sbd T n Y cd (tx T n isl (tx T n isb a)) k)
section WP
variable {T : Nat → Nat} {n : Nat} {Y : YD} {cd : List Tok}
theorem wp_0e {o a : Nat} (h : sen T n o (tx T n isb a) = true) (f : Nat) : wp T n Y cd (f + 1) 0 o a = some (.inl (tx T n isb a), id) := by rw [wp, if_pos h]
theorem wp_0s {o a : Nat} (h : ¬ sen T n o (tx T n isb a) = true) (f : Nat) : wp T n Y cd (f + 1) 0 o a = andW (wp T n Y cd f 1 o (tx T n isb a)) (fun b X => andW (some (psg T n 59 (.inl b), id)) (fun b2 _ => andW (wp T n Y cd f 0 o b2) (fun b3 X2 => some (.inl b3, fun s => X2 (X s))))) := by rw [wp, if_neg h]
theorem wp_1n {a : Nat} (h : skd T (tx T n isb a) (tx T n isl (tx T n isb a)) = none) (f o : Nat) : wp T n Y cd (f + 1) 1 o a = some (.inr (1, tx T n isb a), id) := by
  rw [wp, h] <;> (intro q; omega)
theorem wp_1k {a k : Nat} (h : skd T (tx T n isb a) (tx T n isl (tx T n isb a)) = some k) (hk : k ≠ 4) (f o : Nat) : wp T n Y cd (f + 1) 1 o a = some (sbd T n Y cd (tx T n isl (tx T n isb a)) k) := by
  rw [wp, h] <;> try (intro q; omega)
  dsimp only
  rw [if_neg hk]
theorem wp_1m {a o : Nat} (h : skd T (tx T n isb a) (tx T n isl (tx T n isb a)) = some 4) (h6 : 6 ≤ o) (f : Nat) : wp T n Y cd (f + 1) 1 o a = some (.inr (3, tx T n isb a), id) := by
  rw [wp, h] <;> try (intro q; omega)
  dsimp only
  rw [if_pos rfl, if_pos h6]
theorem wp_1a {a o : Nat} (h : skd T (tx T n isb a) (tx T n isl (tx T n isb a)) = some 4) (h6 : ¬ 6 ≤ o) (f : Nat) : wp T n Y cd (f + 1) 1 o a = andW (some (psg T n 91 (pnm T n 0 31 (.inl (tx T n isl (tx T n isb a)))), id)) (fun b2 _ => andW (wp T n Y cd f 0 (o + 1) b2) (fun b3 X => some (psg T n 93 (.inl b3), agf (nmN T n (tx T n isl (tx T n isb a))) X))) := by
  rw [wp, h] <;> try (intro q; omega)
  dsimp only
  rw [if_pos rfl, if_neg h6]
theorem wp_mono : ∀ (f m o a : Nat) (x : PS × WF), m ≤ 1 → wp T n Y cd f m o a = some x → wp T n Y cd (f + 1) m o a = some x := by
  intro f
  induction f with
  | zero => intro m o a x _ h; cases h
  | succ f ih =>
    intro m o a x hm h
    match m, hm with
    | 0, _ =>
      by_cases he : sen T n o (tx T n isb a) = true
      · rw [wp_0e he] at h ⊢; exact h
      · rw [wp_0s he] at h ⊢
        exact andW_mono h (fun y hy => ih _ _ _ _ (by decide) hy) (fun b c hb => andW_mono hb (fun y hy => hy) (fun b c hb => andW_mono hb (fun y hy => ih _ _ _ _ (by decide) hy) (fun b c hb => hb)))
    | 1, _ =>
      cases hs : skd T (tx T n isb a) (tx T n isl (tx T n isb a)) with
      | none => rw [wp_1n hs] at h ⊢; exact h
      | some k =>
        by_cases hk : k = 4
        · subst hk
          by_cases h6 : 6 ≤ o
          · rw [wp_1m hs h6] at h ⊢; exact h
          · rw [wp_1a hs h6] at h ⊢
            exact andW_mono h (fun y hy => hy) (fun b c hb => andW_mono hb (fun y hy => ih _ _ _ _ (by decide) hy) (fun b c hb => hb))
        · rw [wp_1k hs hk] at h ⊢; exact h
theorem wfst {s : PS} {X Z : WF} {b : Nat} (h : (some (s, X) : WR) = some (.inl b, Z)) : s = .inl b ∧ X = Z := by
  have h := Option.some.inj h
  exact ⟨congrArg Prod.fst h, congrArg Prod.snd h⟩
theorem sbd_lt {e k b : Nat} (hk : k ≤ 3) (he : e ≤ n) (h : (sbd T n Y cd e k).1 = .inl b) : e ≤ b ∧ b ≤ n := by
  match k, hk with
  | 0, _ =>
    obtain ⟨a1, h1, h2, h3⟩ := pnm_lt h
    obtain ⟨a2, h4, h5, h6⟩ := pnm_lt h1
    cases h4
    have := h6 he
    exact ⟨by omega, h3 this⟩
  | 1, _ =>
    obtain ⟨a1, h1, h2, h3⟩ := pnm_lt h
    obtain ⟨a2, h4, h5, h6⟩ := pnm_lt h1
    obtain ⟨a3, h7, h8, h9⟩ := pnm_lt h4
    cases h7
    exact ⟨by omega, h3 (h6 (h9 he))⟩
  | 2, _ =>
    have h : pnm T n 0 (Y 0 0) (.inl e) = .inl b := h
    obtain ⟨a1, h1, h2, h3⟩ := pnm_lt h
    cases h1
    exact ⟨by omega, h3 he⟩
  | 3, _ =>
    cases h
    exact ⟨Nat.le_refl _, he⟩
theorem wp_len : ∀ (f m o a b : Nat) (X : WF), m ≤ 1 → wp T n Y cd f m o a = some (.inl b, X) → a ≤ n → a + 3 * m ≤ b ∧ b ≤ n := by
  intro f
  induction f with
  | zero => intro m o a b X _ h; cases h
  | succ f ih =>
    intro m o a b X hm h ha
    have h1 := tx_ge T n isb a
    have h2 : tx T n isb a ≤ n := tx_le ha
    have h3 := tx_ge T n isl (tx T n isb a)
    have h4 : tx T n isl (tx T n isb a) ≤ n := tx_le h2
    match m, hm with
    | 0, _ =>
      by_cases he : sen T n o (tx T n isb a) = true
      · rw [wp_0e he] at h
        cases h
        omega
      · rw [wp_0s he] at h
        obtain ⟨b1, X1, e1, h⟩ := andW_inl h
        obtain ⟨b2, X2, e2, h⟩ := andW_inl h
        obtain ⟨b3, X3, e3, h⟩ := andW_inl h
        cases (wfst h).1
        obtain ⟨x, hx, p1, p2⟩ := psg_lt (wfst e2).1
        cases hx
        have g1 := ih 1 o _ b1 X1 (by decide) e1 h2
        have g2 := ih 0 o b2 b X3 (by decide) e3 (p2 g1.2)
        omega
    | 1, _ =>
      cases hs : skd T (tx T n isb a) (tx T n isl (tx T n isb a)) with
      | none => rw [wp_1n hs] at h; cases h
      | some k =>
        have hk4 := skd_lt hs
        by_cases hk : k = 4
        · subst hk
          by_cases h6 : 6 ≤ o
          · rw [wp_1m hs h6] at h; cases h
          · rw [wp_1a hs h6] at h
            obtain ⟨b1, X1, e1, h⟩ := andW_inl h
            obtain ⟨b2, X2, e2, h⟩ := andW_inl h
            obtain ⟨x, hx, p1, p2⟩ := psg_lt (wfst e1).1
            obtain ⟨y, hy, p3, p4⟩ := pnm_lt hx
            cases hy
            have g2 := ih 0 (o + 1) b1 b2 X2 (by decide) e2 (p2 (p4 h4))
            obtain ⟨z, hz, p5, p6⟩ := psg_lt (wfst h).1
            cases hz
            have := p6 g2.2
            omega
        · rw [wp_1k hs hk] at h
          have := sbd_lt (by omega) h4 (congrArg Prod.fst (Option.some.inj h))
          omega
def kmonoW (K : Nat → WR) : Prop := ∀ f x, K f = some x → K (f + 1) = some x
theorem kmonoWN {K : Nat → WR} (h : kmonoW K) {f : Nat} {x : PS × WF} (hx : K f = some x) : ∀ k, K (f + k) = some x
  | 0 => hx
  | k + 1 => h _ _ (kmonoWN h hx k)
theorem kmaxW {K : Nat → WR} (h : kmonoW K) {f g : Nat} {x : PS × WF} (hx : K f = some x) (hg : f ≤ g) : K g = some x := by
  have := kmonoWN h hx (g - f)
  rwa [show f + (g - f) = g by omega] at this
theorem andW_end {R : Nat → WR} {K : Nat → Nat → WF → WR} (hR : kmonoW R) (hK : ∀ b c, kmonoW (fun f => K f b c)) (h1 : ∃ f x, R f = some x) (h2 : ∀ f b c, R f = some (.inl b, c) → ∃ f x, K f b c = some x) : ∃ f x, andW (R f) (K f) = some x := by
  obtain ⟨f, ⟨s, c⟩, h⟩ := h1
  cases s with
  | inr q => exact ⟨f, (.inr q, c), by rw [h]; rfl⟩
  | inl b =>
    obtain ⟨g, x, hx⟩ := h2 f b c h
    refine ⟨f + g, x, ?_⟩
    rw [kmaxW hR h (show f ≤ f + g by omega)]
    exact kmaxW (hK b c) hx (show g ≤ f + g by omega)
theorem kmono_wp (m o a : Nat) (hm : m ≤ 1) : kmonoW (fun f => wp T n Y cd f m o a) := fun f x h => wp_mono f m o a x hm h
theorem kmonoW_c (r : WR) : kmonoW (fun _ => r) := fun _ _ h => h
theorem kmonoW_and {R : Nat → WR} {K : Nat → Nat → WF → WR} (hR : kmonoW R) (hK : ∀ b c, kmonoW (fun f => K f b c)) : kmonoW (fun f => andW (R f) (K f)) := fun f _ h => andW_mono h (fun _ hy => hR f _ hy) (fun b c hb => hK b c f _ hb)
theorem wp_suc {m o a : Nat} (h : ∃ f x, wp T n Y cd (f + 1) m o a = some x) : ∃ f x, wp T n Y cd f m o a = some x := by
  obtain ⟨f, x, h⟩ := h
  exact ⟨f + 1, x, h⟩
theorem wp_end : ∀ (N m o a : Nat), n - a ≤ N → a ≤ n → m ≤ 1 → ∃ f x, wp T n Y cd f m o a = some x := by
  intro N
  induction N with
  | zero => ?_
  | succ N ih => ?_
  all_goals
    intro m o a hN ha hm
    have H : ∀ (m o b : Nat), a < b → b ≤ n → m ≤ 1 → ∃ f x, wp T n Y cd f m o b = some x := fun m o b hb hn hm => by
      first | exact ih m o b (by omega) hn hm | omega
    have m1 : ∀ (a1 o : Nat), a ≤ a1 → a1 ≤ n → ∃ f x, wp T n Y cd f 1 o a1 = some x := by
      intro a1 o ha1 ha2
      have h1 := tx_ge T n isb a1
      have h2 : tx T n isb a1 ≤ n := tx_le ha2
      have h3 := tx_ge T n isl (tx T n isb a1)
      have h4 : tx T n isl (tx T n isb a1) ≤ n := tx_le h2
      apply wp_suc
      cases hs : skd T (tx T n isb a1) (tx T n isl (tx T n isb a1)) with
      | none => exact ⟨0, _, wp_1n hs 0 o⟩
      | some k =>
        have hk4 := skd_lt hs
        by_cases hk : k = 4
        · subst hk
          by_cases h6 : 6 ≤ o
          · exact ⟨0, _, wp_1m hs h6 0⟩
          · have goal : ∃ f x, andW ((fun _ => some (psg T n 91 (pnm T n 0 31 (.inl (tx T n isl (tx T n isb a1)))), id)) f) ((fun f b2 _ => andW (wp T n Y cd f 0 (o + 1) b2) (fun b3 X => some (psg T n 93 (.inl b3), agf (nmN T n (tx T n isl (tx T n isb a1))) X))) f) = some x := by
              refine andW_end (kmonoW_c _) (fun b c => kmonoW_and (kmono_wp _ _ _ (by decide)) (fun b c => kmonoW_c _)) ⟨0, _, rfl⟩ (fun f b1 c1 e1 => ?_)
              obtain ⟨x, hx, p1, p2⟩ := psg_lt (wfst e1).1
              obtain ⟨y, hy, p3, p4⟩ := pnm_lt hx
              cases hy
              exact andW_end (R := fun f => wp T n Y cd f 0 (o + 1) b1) (K := fun f b3 X => some (psg T n 93 (.inl b3), agf (nmN T n (tx T n isl (tx T n isb a1))) X)) (kmono_wp _ _ _ (by decide)) (fun b c => kmonoW_c _) (H 0 (o + 1) b1 (by omega) (p2 (p4 h4)) (by decide)) (fun f b c h => ⟨0, _, rfl⟩)
            obtain ⟨f, x, h⟩ := goal
            exact ⟨f, x, by rw [wp_1a hs h6]; exact h⟩
        · exact ⟨0, _, wp_1k hs hk 0 o⟩
    match m, hm with
    | 1, _ => exact m1 a o (Nat.le_refl _) ha
    | 0, _ =>
      have h1 := tx_ge T n isb a
      have h2 : tx T n isb a ≤ n := tx_le ha
      apply wp_suc
      by_cases he : sen T n o (tx T n isb a) = true
      · exact ⟨0, _, wp_0e he 0⟩
      · have goal : ∃ f x, andW ((fun f => wp T n Y cd f 1 o (tx T n isb a)) f) ((fun f b X => andW (some (psg T n 59 (.inl b), id)) (fun b2 _ => andW (wp T n Y cd f 0 o b2) (fun b3 X2 => some (.inl b3, fun s => X2 (X s))))) f) = some x := by
          refine andW_end (R := fun f => wp T n Y cd f 1 o (tx T n isb a)) (kmono_wp _ _ _ (by decide)) (fun b c => kmonoW_and (kmonoW_c _) (fun b c => kmonoW_and (kmono_wp _ _ _ (by decide)) (fun b c => kmonoW_c _))) (m1 _ o h1 h2) (fun f b1 X1 e1 => ?_)
          have g1 := wp_len f 1 o _ b1 X1 (by decide) e1 h2
          refine andW_end (R := fun _ => some (psg T n 59 (.inl b1), id)) (K := fun f b2 _ => andW (wp T n Y cd f 0 o b2) (fun b3 X2 => some (.inl b3, fun s => X2 (X1 s)))) (kmonoW_c _) (fun b c => kmonoW_and (kmono_wp _ _ _ (by decide)) (fun b c => kmonoW_c _)) ⟨0, _, rfl⟩ (fun f b2 X2 e2 => ?_)
          obtain ⟨x, hx, p1, p2⟩ := psg_lt (wfst e2).1
          cases hx
          exact andW_end (R := fun f => wp T n Y cd f 0 o b2) (K := fun f b3 X2 => some (.inl b3, fun s => X2 (X1 s))) (kmono_wp _ _ _ (by decide)) (fun b c => kmonoW_c _) (H 0 o b2 (by omega) (p2 g1.2) (by decide)) (fun f b c h => ⟨0, _, rfl⟩)
        obtain ⟨f, x, h⟩ := goal
        exact ⟨f, x, by rw [wp_0s he]; exact h⟩
end WP
