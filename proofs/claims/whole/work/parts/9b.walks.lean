/-! Walks from near to far: what such a search finds -/
def Wk {V : Type} (E : V → Nat → V → Prop) (s : V) : Nat → V → Nat → Prop
  | 0, v, _ => v = s
  | d + 1, v, f => ∃ u f' x, Wk E s d u f' ∧ E u x v ∧ f = if d = 0 then x else f'
def An {V : Type} (E : V → Nat → V → Prop) (s : V) (G : V → Prop) : Option Nat → Nat → Prop
  | none, _ => ∀ d v x, Wk E s d v x → ¬ G v
  | some F, f => (∃ v x, Wk E s F v x ∧ G v ∧ (0 < F → x = f)) ∧ ∀ d v x, Wk E s d v x → G v → F ≤ d ∧ (d = F → 0 < F → f ≤ x)
theorem An_u {V : Type} {E : V → Nat → V → Prop} {s : V} {G : V → Prop} : ∀ {r r' : Option Nat} {f f' : Nat}, An E s G r f → An E s G r' f' → r = r' ∧ ∀ F, r = some (F + 1) → f = f'
  | none, none, _, _, _, _ => ⟨rfl, fun _ h => by cases h⟩
  | none, some F', f, f', h, h' => by
    obtain ⟨⟨v, x, hw, hg, _⟩, _⟩ := h'
    exact absurd hg (h F' v x hw)
  | some F, none, f, f', h, h' => by
    obtain ⟨⟨v, x, hw, hg, _⟩, _⟩ := h
    exact absurd hg (h' F v x hw)
  | some F, some F', f, f', h, h' => by
    obtain ⟨⟨v, x, hw, hg, hx⟩, hall⟩ := h
    obtain ⟨⟨v', x', hw', hg', hx'⟩, hall'⟩ := h'
    have a := hall F' v' x' hw' hg'
    have b := hall' F v x hw hg
    have e : F = F' := by omega
    subst e
    refine ⟨rfl, fun K hK => ?_⟩
    have hp : 0 < F := by cases hK; omega
    have := a.2 rfl hp
    have := b.2 rfl hp
    have := hx hp
    have := hx' hp
    omega
def up {A : Type} (f : Nat → A) (k : Nat) (a : A) : Nat → A := fun i => if i = k then a else f i
theorem up_eq {A : Type} {f : Nat → A} {k : Nat} {a : A} : up f k a k = a := if_pos rfl
theorem up_ne {A : Type} {f : Nat → A} {k i : Nat} {a : A} (h : i ≠ k) : up f k a i = f i := if_neg h
def by9 (d m : Nat → Nat) (i x : Nat) : Nat := if d i = 0 then x else m i
/-- the row of what was met, in order, the start first -/
def Row {V : Type} (E : V → Nat → V → Prop) (s : V) (q : Nat → V) (d m : Nat → Nat) (hd tl : Nat) : Prop :=
  q 0 = s ∧ d 0 = 0 ∧ 0 < tl ∧ (∀ i, i < tl → Wk E s (d i) (q i) (m i)) ∧ (∀ i j, i ≤ j → j < tl → d i ≤ d j) ∧ (∀ i j, i < tl → j < tl → q i = q j → i = j) ∧ (∀ i j, hd ≤ i → i < tl → j < tl → d j ≤ d i + 1)
def Mt9 {V : Type} (q : Nat → V) (d m : Nat → Nat) (tl i x : Nat) (v : V) : Prop := ∃ j, j < tl ∧ q j = v ∧ d j ≤ d i + 1 ∧ (d j = d i + 1 → m j ≤ by9 d m i x)
theorem Row_0 {V : Type} (E : V → Nat → V → Prop) (s : V) (q : Nat → V) (d m : Nat → Nat) (h : q 0 = s) (h0 : d 0 = 0) : Row E s q d m 0 1 := by
  refine ⟨h, h0, by decide, fun i hi => ?_, fun i j hij hj => ?_, fun i j hi hj _ => by omega, fun i j _ hi hj => ?_⟩
  · have : i = 0 := by omega
    subst this
    rw [h0]
    exact h
  · have : i = 0 ∧ j = 0 := by omega
    rw [this.1, this.2]
    exact Nat.le_refl _
  · have : i = 0 ∧ j = 0 := by omega
    rw [this.1, this.2]
    omega
theorem Row_push {V : Type} {E : V → Nat → V → Prop} {s : V} {q : Nat → V} {d m : Nat → Nat} {hd tl x : Nat} {v : V} (h : Row E s q d m hd tl) (hh : hd < tl) (hE : E (q hd) x v) (hn : ∀ j, j < tl → q j ≠ v) : Row E s (up q tl v) (up d tl (d hd + 1)) (up m tl (by9 d m hd x)) hd (tl + 1) := by
  obtain ⟨h1, h2, h3, h4, h5, h6, h7⟩ := h
  have u : ∀ {A : Type} {f : Nat → A} {a : A} {i : Nat}, i < tl → up f tl a i = f i := fun hi => up_ne (by omega)
  refine ⟨by rw [u h3]; exact h1, by rw [u h3]; exact h2, by omega, fun i hi => ?_, fun i j hij hj => ?_, fun i j hi hj e => ?_, fun i j hdi hi hj => ?_⟩
  · by_cases e : i = tl
    · subst e
      rw [up_eq, up_eq, up_eq]
      exact ⟨q hd, m hd, x, h4 hd hh, hE, rfl⟩
    · rw [u (by omega), u (by omega), u (by omega)]
      exact h4 i (by omega)
  · by_cases ej : j = tl
    · subst ej
      rw [up_eq]
      by_cases ei : i = j
      · rw [ei, up_eq]; exact Nat.le_refl _
      · rw [u (by omega)]
        exact h7 hd i (Nat.le_refl _) hh (by omega)
    · rw [u (by omega), u (by omega)]
      exact h5 i j hij (by omega)
  · by_cases ei : i = tl
    · by_cases ej : j = tl
      · omega
      · rw [ei, up_eq, u (by omega)] at e
        exact absurd e.symm (hn j (by omega))
    · by_cases ej : j = tl
      · rw [ej, up_eq, u (by omega)] at e
        exact absurd e (hn i (by omega))
      · rw [u (by omega), u (by omega)] at e
        exact h6 i j (by omega) (by omega) e
  · by_cases ei : i = tl
    · rw [ei, up_eq]
      by_cases ej : j = tl
      · rw [ej, up_eq]; omega
      · rw [u (by omega)]
        have := h7 hd j (Nat.le_refl _) hh (by omega)
        omega
    · rw [u (i := i) (by omega)]
      by_cases ej : j = tl
      · rw [ej, up_eq]
        have := h5 hd i hdi (by omega)
        omega
      · rw [u (by omega)]
        exact h7 i j hdi (by omega) (by omega)
theorem Mt_push {V : Type} {q : Nat → V} {d m : Nat → Nat} {tl i x a b : Nat} {v w : V} (hi : i < tl) (h : Mt9 q d m tl i x v) : Mt9 (up q tl w) (up d tl a) (up m tl b) (tl + 1) i x v := by
  obtain ⟨j, h1, h2, h3, h4⟩ := h
  refine ⟨j, by omega, ?_, ?_, ?_⟩
  · rw [up_ne (by omega)]; exact h2
  · rw [up_ne (by omega), up_ne (by omega)]; exact h3
  · unfold by9
    rw [up_ne (by omega), up_ne (by omega), up_ne (by omega), up_ne (by omega)]
    exact h4
theorem Mt_new {V : Type} {q : Nat → V} {d m : Nat → Nat} {tl i x : Nat} {v : V} (hi : i < tl) : Mt9 (up q tl v) (up d tl (d i + 1)) (up m tl (by9 d m i x)) (tl + 1) i x v := by
  refine ⟨tl, by omega, up_eq, ?_, fun _ => ?_⟩
  · rw [up_eq, up_ne (by omega)]; exact Nat.le_refl _
  · unfold by9
    rw [up_eq, up_ne (by omega), up_ne (by omega)]
    exact Nat.le_refl _
theorem Row_low {V : Type} {E : V → Nat → V → Prop} {s : V} {q : Nat → V} {d m : Nat → Nat} {hd tl x j0 : Nat} (h : Row E s q d m hd tl) (hh : hd < tl) (hE : E (q hd) x (q j0)) (hj : j0 < tl) (hd0 : d j0 = d hd + 1) : Row E s q d (up m j0 (min (m j0) (by9 d m hd x))) hd tl := by
  obtain ⟨h1, h2, h3, h4, h5, h6, h7⟩ := h
  refine ⟨h1, h2, h3, fun i hi => ?_, h5, h6, h7⟩
  by_cases e : i = j0
  · subst e
    rw [up_eq]
    rcases Nat.le_total (m i) (by9 d m hd x) with q1 | q1
    · rw [Nat.min_eq_left q1]; exact h4 i hi
    · rw [Nat.min_eq_right q1, hd0]
      exact ⟨q hd, m hd, x, h4 hd hh, hE, rfl⟩
  · rw [up_ne e]
    exact h4 i hi
theorem Mt_low {V : Type} {q : Nat → V} {d m : Nat → Nat} {tl i x j0 b : Nat} {v : V} (hi : d i < d j0) (h : Mt9 q d m tl i x v) : Mt9 q d (up m j0 (min (m j0) b)) tl i x v := by
  obtain ⟨j, h1, h2, h3, h4⟩ := h
  refine ⟨j, h1, h2, h3, fun e => ?_⟩
  have h4 := h4 e
  have e2 : by9 d (up m j0 (min (m j0) b)) i x = by9 d m i x := by
    unfold by9
    rw [up_ne (fun q => by rw [q] at hi; omega)]
  rw [e2]
  by_cases e1 : j = j0
  · subst e1
    rw [up_eq]
    exact Nat.le_trans (Nat.min_le_left _ _) h4
  · rw [up_ne e1]
    exact h4
theorem Mt_min {V : Type} {q : Nat → V} {d m : Nat → Nat} {tl i x j0 : Nat} (hj : j0 < tl) (hd0 : d j0 = d i + 1) : Mt9 q d (up m j0 (min (m j0) (by9 d m i x))) tl i x (q j0) := by
  refine ⟨j0, hj, rfl, by omega, fun _ => ?_⟩
  unfold by9
  rw [up_eq, up_ne (i := i) (fun e => by rw [e] at hd0; omega)]
  exact Nat.min_le_right _ _
theorem Row_next {V : Type} {E : V → Nat → V → Prop} {s : V} {q : Nat → V} {d m : Nat → Nat} {hd tl : Nat} (h : Row E s q d m hd tl) : Row E s q d m (hd + 1) tl := by
  obtain ⟨h1, h2, h3, h4, h5, h6, h7⟩ := h
  exact ⟨h1, h2, h3, h4, h5, h6, fun i j hi => h7 i j (by omega)⟩
/-- the reference's: what is the best yet -/
def Bst {V : Type} (G : V → Prop) (q : Nat → V) (d m : Nat → Nat) (hd : Nat) : Option Nat → Nat → Prop
  | none, _ => ∀ i, i < hd → ¬ G (q i)
  | some B, ff => (∀ i, i < hd → G (q i) → d i = B ∧ (0 < B → ff ≤ m i)) ∧ ∃ i, i < hd ∧ G (q i) ∧ d i = B ∧ (0 < B → ff = m i)
def BI {V : Type} (E : V → Nat → V → Prop) (s : V) (G : V → Prop) (q : Nat → V) (d m : Nat → Nat) (hd tl : Nat) (best : Option Nat) (ff : Nat) : Prop := Row E s q d m hd tl ∧ hd ≤ tl ∧ (∀ i, i < hd → ¬ G (q i) → ∀ x v, E (q i) x v → Mt9 q d m tl i x v) ∧ Bst G q d m hd best ff
theorem BI_none {V : Type} {E : V → Nat → V → Prop} {s : V} {G : V → Prop} {q : Nat → V} {d m : Nat → Nat} {tl ff : Nat} (h : BI E s G q d m tl tl none ff) (f : Nat) : An E s G none f := by
  obtain ⟨hr, _, hc, hb⟩ := h
  have key : ∀ n v x, Wk E s n v x → ∃ j, j < tl ∧ q j = v := by
    intro n
    induction n with
    | zero => intro v x hw; exact ⟨0, hr.2.2.1, hr.1.trans hw.symm⟩
    | succ n ih =>
      intro v x hw
      obtain ⟨u, f', y, hu, he, _⟩ := hw
      obtain ⟨j, hj, e⟩ := ih u f' hu
      subst e
      obtain ⟨k, hk, e2, _⟩ := hc j hj (hb j hj) y v he
      exact ⟨k, hk, e2⟩
  intro n v x hw
  obtain ⟨j, hj, e⟩ := key n v x hw
  rw [← e]
  exact hb j hj
theorem BI_some {V : Type} {E : V → Nat → V → Prop} {s : V} {G : V → Prop} {q : Nat → V} {d m : Nat → Nat} {hd tl B ff : Nat} (h : BI E s G q d m hd tl (some B) ff) (he : hd = tl ∨ (hd < tl ∧ B < d hd)) : An E s G (some B) ff := by
  obtain ⟨hr, hle, hc, hb1, hb2⟩ := h
  obtain ⟨h1, h2, h3, h4, h5, h6, h7⟩ := hr
  have hlow : ∀ j, j < tl → d j ≤ B → j < hd := fun j hj hB => by
    rcases he with e | e
    · omega
    · refine Nat.lt_of_not_le fun q1 => ?_
      have := h5 hd j q1 hj
      omega
  have key : ∀ n v x, n ≤ B → Wk E s n v x → ∃ j, j < tl ∧ q j = v ∧ d j ≤ n ∧ (d j = n → 0 < n → m j ≤ x) := by
    intro n
    induction n with
    | zero => intro v x _ hw; exact ⟨0, h3, h1.trans hw.symm, by omega, fun _ h => absurd h (by decide)⟩
    | succ n ih =>
      intro v x hn hw
      obtain ⟨u, f', y, hu, hE, hx⟩ := hw
      obtain ⟨j, hj, e, hdj, hmj⟩ := ih u f' (by omega) hu
      subst e
      have hjl := hlow j hj (by omega)
      have hng : ¬ G (q j) := fun g => by have := (hb1 j hjl g).1; omega
      obtain ⟨k, hk, e2, hdk, hmk⟩ := hc j hjl hng y v hE
      refine ⟨k, hk, e2, by omega, fun e _ => ?_⟩
      have hjn : d j = n := by omega
      have h8 := hmk (by omega)
      unfold by9 at h8
      rw [hjn] at h8
      by_cases z : n = 0
      · rw [if_pos z] at h8 hx; omega
      · rw [if_neg z] at h8 hx
        have := hmj hjn (by omega)
        omega
  refine ⟨?_, fun n v x hw hg => ?_⟩
  · obtain ⟨i, hi, hg, hdi, hf⟩ := hb2
    refine ⟨q i, m i, ?_, hg, fun z => (hf z).symm⟩
    rw [← hdi]
    exact h4 i (by omega)
  · by_cases z : n ≤ B
    · obtain ⟨j, hj, e, hdj, hmj⟩ := key n v x z hw
      subst e
      have hjl := hlow j hj (by omega)
      obtain ⟨a, b⟩ := hb1 j hjl hg
      refine ⟨by omega, fun e p => ?_⟩
      have := hmj (by omega) (by omega)
      have := b p
      omega
    · exact ⟨by omega, fun e => by omega⟩
theorem BI_goal {V : Type} {E : V → Nat → V → Prop} {s : V} {G : V → Prop} {q : Nat → V} {d m : Nat → Nat} {hd tl ff : Nat} {best : Option Nat} (h : BI E s G q d m hd tl best ff) (hh : hd < tl) (hg : G (q hd)) (hB : ∀ B, best = some B → d hd ≤ B) {f2 : Nat} (hf : 0 < d hd → f2 = match best with | none => m hd | some _ => min ff (m hd)) : BI E s G q d m (hd + 1) tl (some (d hd)) f2 := by
  obtain ⟨hr, hle, hc, hb⟩ := h
  have hr0 := hr
  obtain ⟨h1, h2, h3, h4, h5, h6, h7⟩ := hr
  refine ⟨Row_next hr0, hh, fun i hi hn => ?_, ?_⟩
  · by_cases e : i = hd
    · subst e; exact absurd hg hn
    · exact hc i (by omega) hn
  · cases best with
    | none =>
      dsimp only at hf
      refine ⟨fun i hi g => ?_, hd, by omega, hg, rfl, hf⟩
      by_cases e : i = hd
      · subst e; exact ⟨rfl, fun p => by rw [hf p]; exact Nat.le_refl _⟩
      · exact absurd g (hb i (by omega))
    | some B =>
      dsimp only at hf
      obtain ⟨b1, i0, hi0, g0, d0, f0⟩ := hb
      have e1 : d hd = B := by
        have := h5 i0 hd (by omega) hh
        have := hB B rfl
        omega
      refine ⟨fun i hi g => ?_, ?_⟩
      · by_cases e : i = hd
        · subst e; exact ⟨rfl, fun p => by rw [hf p]; exact Nat.min_le_right _ _⟩
        · obtain ⟨a, b⟩ := b1 i (by omega) g
          refine ⟨by omega, fun p => ?_⟩
          rw [hf p]
          exact Nat.le_trans (Nat.min_le_left _ _) (b (by omega))
      · rcases Nat.le_total ff (m hd) with z | z
        · refine ⟨i0, by omega, g0, by omega, fun p => ?_⟩
          rw [hf p, Nat.min_eq_left z]
          exact f0 (by omega)
        · refine ⟨hd, by omega, hg, rfl, fun p => ?_⟩
          rw [hf p, Nat.min_eq_right z]
/-- the reference's, while the moves of one stand are gone through -/
def BP {V : Type} (E : V → Nat → V → Prop) (s : V) (G : V → Prop) (q : Nat → V) (d m : Nat → Nat) (hd tl : Nat) (best : Option Nat) (ff : Nat) (D : Nat → V → Prop) : Prop := BI E s G q d m hd tl best ff ∧ hd < tl ∧ ∀ x v, D x v → Mt9 q d m tl hd x v
theorem Bst_cg {V : Type} {G : V → Prop} {q q' : Nat → V} {d d' m m' : Nat → Nat} {hd : Nat} (h : ∀ i, i < hd → q' i = q i ∧ d' i = d i ∧ m' i = m i) : ∀ {best : Option Nat} {ff : Nat}, Bst G q d m hd best ff → Bst G q' d' m' hd best ff
  | none, _, hb => fun i hi => by rw [(h i hi).1]; exact hb i hi
  | some B, ff, hb => by
    obtain ⟨a, i, hi, b⟩ := hb
    refine ⟨fun i hi => ?_, i, hi, ?_⟩
    · rw [(h i hi).1, (h i hi).2.1, (h i hi).2.2]; exact a i hi
    · rw [(h i hi).1, (h i hi).2.1, (h i hi).2.2]; exact b
theorem BP_push {V : Type} {E : V → Nat → V → Prop} {s : V} {G : V → Prop} {q : Nat → V} {d m : Nat → Nat} {hd tl ff x : Nat} {best : Option Nat} {D : Nat → V → Prop} {v : V} (h : BP E s G q d m hd tl best ff D) (hE : E (q hd) x v) (hn : ∀ j, j < tl → q j ≠ v) : BP E s G (up q tl v) (up d tl (d hd + 1)) (up m tl (by9 d m hd x)) hd (tl + 1) best ff (fun y u => D y u ∨ (y = x ∧ u = v)) := by
  obtain ⟨⟨hr, hle, hc, hb⟩, hh, hD⟩ := h
  refine ⟨⟨Row_push hr hh hE hn, by omega, fun i hi hg y u hu => ?_, Bst_cg (fun i hi => ⟨up_ne (by omega), up_ne (by omega), up_ne (by omega)⟩) hb⟩, by omega, fun y u hy => ?_⟩
  · rw [up_ne (by omega)] at hg hu
    exact Mt_push (by omega) (hc i hi hg y u hu)
  · rcases hy with hy | ⟨e1, e2⟩
    · exact Mt_push hh (hD y u hy)
    · subst e1; subst e2
      exact Mt_new hh
theorem BP_low {V : Type} {E : V → Nat → V → Prop} {s : V} {G : V → Prop} {q : Nat → V} {d m : Nat → Nat} {hd tl ff x j0 : Nat} {best : Option Nat} {D : Nat → V → Prop} (h : BP E s G q d m hd tl best ff D) (hE : E (q hd) x (q j0)) (hj : j0 < tl) (hd0 : d j0 = d hd + 1) : BP E s G q d (up m j0 (min (m j0) (by9 d m hd x))) hd tl best ff (fun y u => D y u ∨ (y = x ∧ u = q j0)) := by
  obtain ⟨⟨hr, hle, hc, hb⟩, hh, hD⟩ := h
  have hlow : ∀ i, i ≤ hd → d i < d j0 := fun i hi => by have := hr.2.2.2.2.1 i hd hi hh; omega
  refine ⟨⟨Row_low hr hh hE hj hd0, hle, fun i hi hg y u hu => Mt_low (hlow i (by omega)) (hc i hi hg y u hu), Bst_cg (fun i hi => ⟨rfl, rfl, up_ne (fun e => ?_)⟩) hb⟩, hh, fun y u hy => ?_⟩
  · have := hlow i (by omega)
    rw [e] at this
    omega
  · rcases hy with hy | ⟨e1, e2⟩
    · exact Mt_low (hlow hd (Nat.le_refl _)) (hD y u hy)
    · subst e1; subst e2
      exact Mt_min hj hd0
theorem BP_old {V : Type} {E : V → Nat → V → Prop} {s : V} {G : V → Prop} {q : Nat → V} {d m : Nat → Nat} {hd tl ff x j0 : Nat} {best : Option Nat} {D : Nat → V → Prop} (h : BP E s G q d m hd tl best ff D) (hj : j0 < tl) (hd0 : d j0 ≠ d hd + 1) : BP E s G q d m hd tl best ff (fun y u => D y u ∨ (y = x ∧ u = q j0)) := by
  obtain ⟨⟨hr, hle, hc, hb⟩, hh, hD⟩ := h
  refine ⟨⟨hr, hle, hc, hb⟩, hh, fun y u hy => ?_⟩
  rcases hy with hy | ⟨e1, e2⟩
  · exact hD y u hy
  · subst e2
    exact ⟨j0, hj, rfl, hr.2.2.2.2.2.2 hd j0 (Nat.le_refl _) hh hj, fun e => absurd e hd0⟩
theorem BP_mono {V : Type} {E : V → Nat → V → Prop} {s : V} {G : V → Prop} {q : Nat → V} {d m : Nat → Nat} {hd tl ff : Nat} {best : Option Nat} {D D' : Nat → V → Prop} (h : BP E s G q d m hd tl best ff D) (hD : ∀ x v, D' x v → D x v) : BP E s G q d m hd tl best ff D' := ⟨h.1, h.2.1, fun x v q => h.2.2 x v (hD x v q)⟩
theorem BP_end {V : Type} {E : V → Nat → V → Prop} {s : V} {G : V → Prop} {q : Nat → V} {d m : Nat → Nat} {hd tl ff : Nat} {best : Option Nat} {D : Nat → V → Prop} (h : BP E s G q d m hd tl best ff D) (hg : ¬ G (q hd)) (hD : ∀ x v, E (q hd) x v → D x v) : BI E s G q d m (hd + 1) tl best ff := by
  obtain ⟨⟨hr, hle, hc, hb⟩, hh, hM⟩ := h
  refine ⟨Row_next hr, hh, fun i hi hn x v he => ?_, ?_⟩
  · by_cases e : i = hd
    · subst e; exact hM x v (hD x v he)
    · exact hc i (by omega) hn x v he
  · cases best with
    | none =>
      intro i hi
      by_cases e : i = hd
      · subst e; exact hg
      · exact hb i (by omega)
    | some B =>
      obtain ⟨a, i, hi, b⟩ := hb
      refine ⟨fun i hi g => ?_, i, by omega, b⟩
      by_cases e : i = hd
      · subst e; exact absurd g hg
      · exact a i (by omega) g
