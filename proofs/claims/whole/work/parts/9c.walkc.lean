/-! The class's search from near to far: with a limit, first moves in order -/
def Mc9 {V : Type} (G : V → Prop) (h : V → Nat) (lim : Nat) (cut : Bool) (q : Nat → V) (d m : Nat → Nat) (tl i x : Nat) (v : V) : Prop := ¬ G v ∧ ((cut = true ∧ lim < d i + 1 + h v) ∨ Mt9 q d m tl i x v)
def CB {V : Type} (E : V → Nat → V → Prop) (s : V) (G : V → Prop) (h : V → Nat) (lim : Nat) (cut : Bool) (q : Nat → V) (d m : Nat → Nat) (hd tl xb : Nat) (D : Nat → V → Prop) : Prop :=
  Row E s q d m hd tl ∧ hd < tl ∧ (∀ i, i < tl → d i ≤ i) ∧ (∀ i, i < tl → ¬ G (q i) ∧ d i + h (q i) ≤ lim) ∧ (∀ i j, i ≤ j → j < tl → d i = d j → m i ≤ m j) ∧ (∀ j, j < tl → d j = d hd + 1 → m j ≤ by9 d m hd xb) ∧ (∀ i, i < hd → ∀ x v, E (q i) x v → Mc9 G h lim cut q d m tl i x v) ∧ ∀ x v, D x v → Mc9 G h lim cut q d m tl hd x v
theorem by9_mono {d m : Nat → Nat} {i x y : Nat} (h : x ≤ y) : by9 d m i x ≤ by9 d m i y := by
  unfold by9
  split
  · exact h
  · exact Nat.le_refl _
theorem Mc_cut {V : Type} {G : V → Prop} {h : V → Nat} {lim : Nat} {cut : Bool} {q : Nat → V} {d m : Nat → Nat} {tl i x : Nat} {v : V} (hm : Mc9 G h lim cut q d m tl i x v) : Mc9 G h lim true q d m tl i x v := by
  obtain ⟨a, b⟩ := hm
  refine ⟨a, ?_⟩
  rcases b with b | b
  · exact Or.inl ⟨rfl, b.2⟩
  · exact Or.inr b
theorem Mc_push {V : Type} {G : V → Prop} {h : V → Nat} {lim : Nat} {cut : Bool} {q : Nat → V} {d m : Nat → Nat} {tl i x a b : Nat} {v w : V} (hi : i < tl) (hm : Mc9 G h lim cut q d m tl i x v) : Mc9 G h lim cut (up q tl w) (up d tl a) (up m tl b) (tl + 1) i x v := by
  obtain ⟨a1, b1⟩ := hm
  refine ⟨a1, ?_⟩
  rcases b1 with b1 | b1
  · refine Or.inl ⟨b1.1, ?_⟩
    rw [up_ne (by omega)]
    exact b1.2
  · exact Or.inr (Mt_push hi b1)
theorem CB_0 {V : Type} {E : V → Nat → V → Prop} {s : V} {G : V → Prop} {h : V → Nat} {lim : Nat} {q : Nat → V} {d m : Nat → Nat} (h1 : q 0 = s) (h2 : d 0 = 0) (hg : ¬ G s) (hl : h s ≤ lim) : CB E s G h lim false q d m 0 1 0 (fun _ _ => False) := by
  refine ⟨Row_0 E s q d m h1 h2, by decide, fun i hi => ?_, fun i hi => ?_, fun i j hij hj _ => ?_, fun j hj e => ?_, fun i hi => by omega, fun _ _ f => f.elim⟩
  · rw [show i = 0 by omega, h2]; exact Nat.le_refl _
  · rw [show i = 0 by omega, h1, h2]; exact ⟨hg, by omega⟩
  · rw [show i = 0 by omega, show j = 0 by omega]; exact Nat.le_refl _
  · rw [show j = 0 by omega] at e; omega
theorem CB_skip {V : Type} {E : V → Nat → V → Prop} {s : V} {G : V → Prop} {h : V → Nat} {lim : Nat} {cut : Bool} {q : Nat → V} {d m : Nat → Nat} {hd tl xb xc : Nat} {D D' : Nat → V → Prop} (hc : CB E s G h lim cut q d m hd tl xb D) (hx : xb ≤ xc) (hD : ∀ x v, D' x v → D x v) : CB E s G h lim cut q d m hd tl xc D' := by
  obtain ⟨a1, a2, a3, a4, a5, a6, a7, a8⟩ := hc
  exact ⟨a1, a2, a3, a4, a5, fun j hj e => Nat.le_trans (a6 j hj e) (by9_mono hx), a7, fun x v hv => a8 x v (hD x v hv)⟩
theorem CB_push {V : Type} {E : V → Nat → V → Prop} {s : V} {G : V → Prop} {h : V → Nat} {lim : Nat} {cut : Bool} {q : Nat → V} {d m : Nat → Nat} {hd tl xb x : Nat} {D : Nat → V → Prop} {v : V} (hc : CB E s G h lim cut q d m hd tl xb D) (hx : xb ≤ x) (hE : E (q hd) x v) (hn : ∀ j, j < tl → q j ≠ v) (hg : ¬ G v) (hl : d hd + 1 + h v ≤ lim) : CB E s G h lim cut (up q tl v) (up d tl (d hd + 1)) (up m tl (by9 d m hd x)) hd (tl + 1) x (fun y u => D y u ∨ (y = x ∧ u = v)) := by
  obtain ⟨a1, a2, a3, a4, a5, a6, a7, a8⟩ := hc
  have u : ∀ {A : Type} {f : Nat → A} {a : A} {i : Nat}, i < tl → up f tl a i = f i := fun hi => up_ne (by omega)
  have eb : by9 (up d tl (d hd + 1)) (up m tl (by9 d m hd x)) hd x = by9 d m hd x := by
    show (if up d tl (d hd + 1) hd = 0 then x else up m tl (by9 d m hd x) hd) = by9 d m hd x
    rw [u a2, u a2]
    rfl
  refine ⟨Row_push a1 a2 hE hn, by omega, fun i hi => ?_, fun i hi => ?_, fun i j hij hj e => ?_, fun j hj e => ?_, fun i hi y w hw => ?_, fun y w hy => ?_⟩
  · by_cases e : i = tl
    · rw [e, up_eq]
      have := a3 hd a2
      omega
    · rw [u (by omega)]; exact a3 i (by omega)
  · by_cases e : i = tl
    · rw [e, up_eq, up_eq]; exact ⟨hg, hl⟩
    · rw [u (by omega), u (by omega)]; exact a4 i (by omega)
  · by_cases ej : j = tl
    · by_cases ei : i = tl
      · rw [ei, ej]; exact Nat.le_refl _
      · rw [ej, up_eq, u (by omega)] at e
        rw [ej, up_eq, u (by omega)]
        exact Nat.le_trans (a6 i (by omega) e) (by9_mono hx)
    · rw [u (by omega), u (by omega)] at e
      rw [u (by omega), u (by omega)]
      exact a5 i j hij (by omega) e
  · rw [eb]
    by_cases ej : j = tl
    · rw [ej, up_eq]; exact Nat.le_refl _
    · rw [u (by omega), u a2] at e
      rw [u (by omega)]
      exact Nat.le_trans (a6 j (by omega) e) (by9_mono hx)
  · rw [u (by omega)] at hw
    exact Mc_push (by omega) (a7 i hi y w hw)
  · rcases hy with hy | ⟨e1, e2⟩
    · exact Mc_push a2 (a8 y w hy)
    · subst e1; subst e2
      exact ⟨hg, Or.inr (Mt_new a2)⟩
theorem CB_old {V : Type} {E : V → Nat → V → Prop} {s : V} {G : V → Prop} {h : V → Nat} {lim : Nat} {cut : Bool} {q : Nat → V} {d m : Nat → Nat} {hd tl xb x j0 : Nat} {D : Nat → V → Prop} (hc : CB E s G h lim cut q d m hd tl xb D) (hx : xb ≤ x) (hj : j0 < tl) : CB E s G h lim cut q d m hd tl x (fun y u => D y u ∨ (y = x ∧ u = q j0)) := by
  obtain ⟨a1, a2, a3, a4, a5, a6, a7, a8⟩ := hc
  refine ⟨a1, a2, a3, a4, a5, fun j hj e => Nat.le_trans (a6 j hj e) (by9_mono hx), a7, fun y u hy => ?_⟩
  rcases hy with hy | ⟨e1, e2⟩
  · exact a8 y u hy
  · subst e1; subst e2
    exact ⟨(a4 j0 hj).1, Or.inr ⟨j0, hj, rfl, a1.2.2.2.2.2.2 hd j0 (Nat.le_refl _) a2 hj, fun e => Nat.le_trans (a6 j0 hj e) (by9_mono hx)⟩⟩
theorem CB_cut {V : Type} {E : V → Nat → V → Prop} {s : V} {G : V → Prop} {h : V → Nat} {lim : Nat} {cut : Bool} {q : Nat → V} {d m : Nat → Nat} {hd tl xb x : Nat} {D : Nat → V → Prop} {v : V} (hc : CB E s G h lim cut q d m hd tl xb D) (hx : xb ≤ x) (hg : ¬ G v) (hl : lim < d hd + 1 + h v) : CB E s G h lim true q d m hd tl x (fun y u => D y u ∨ (y = x ∧ u = v)) := by
  obtain ⟨a1, a2, a3, a4, a5, a6, a7, a8⟩ := hc
  refine ⟨a1, a2, a3, a4, a5, fun j hj e => Nat.le_trans (a6 j hj e) (by9_mono hx), fun i hi y u hu => Mc_cut (a7 i hi y u hu), fun y u hy => ?_⟩
  rcases hy with hy | ⟨e1, e2⟩
  · exact Mc_cut (a8 y u hy)
  · subst e1; subst e2
    exact ⟨hg, Or.inl ⟨rfl, hl⟩⟩
theorem CB_goal {V : Type} {E : V → Nat → V → Prop} {s : V} {G : V → Prop} {h : V → Nat} {lim : Nat} {cut : Bool} {q : Nat → V} {d m : Nat → Nat} {hd tl xb x : Nat} {D : Nat → V → Prop} {v : V} (H1 : ∀ n u f, Wk E s n u f → ∀ y w, E u y w → h u ≤ h w + 1) (H2 : ∀ n u f, Wk E s n u f → ¬ G u → 1 ≤ h u) (H3 : ∀ n u f, Wk E s n u f → G u → h u = 0) (hc : CB E s G h lim cut q d m hd tl xb D) (hE : E (q hd) x v) (hg : G v) (hx : ∀ y u, E (q hd) y u → y < x → D y u) : An E s G (some (d hd + 1)) (by9 d m hd x) := by
  obtain ⟨a1, a2, a3, a4, a5, a6, a7, a8⟩ := hc
  obtain ⟨h1, h2, h3, h4, h5, h6, h7⟩ := a1
  have hlim : d hd + 1 ≤ lim := by
    have := (a4 hd a2).2
    have := H2 _ _ _ (h4 hd a2) (a4 hd a2).1
    omega
  have key : ∀ n u y, n ≤ d hd → n + h u ≤ lim → Wk E s n u y → ∃ j, j < tl ∧ q j = u ∧ d j ≤ n ∧ (d j = n → 0 < n → m j ≤ y) := by
    intro n
    induction n with
    | zero => intro u y _ _ hw; exact ⟨0, h3, h1.trans hw.symm, by omega, fun _ h => absurd h (by decide)⟩
    | succ n ih =>
      intro u y hn hl hw
      obtain ⟨u', f', y', hu, hE', hy⟩ := hw
      have := H1 n u' f' hu y' u hE'
      obtain ⟨j, hj, e, hdj, hmj⟩ := ih u' f' (by omega) (by omega) hu
      subst e
      have hjl : j < hd := Nat.lt_of_not_le fun q1 => by
        have := h5 hd j q1 hj
        omega
      obtain ⟨_, b⟩ := a7 j hjl y' u hE'
      rcases b with b | b
      · have := b.2
        omega
      · obtain ⟨k, hk, e2, hdk, hmk⟩ := b
        refine ⟨k, hk, e2, by omega, fun e _ => ?_⟩
        have hjn : d j = n := by omega
        have h8 := hmk (by omega)
        unfold by9 at h8
        rw [hjn] at h8
        by_cases z : n = 0
        · rw [if_pos z] at h8 hy; omega
        · rw [if_neg z] at h8 hy
          have := hmj hjn (by omega)
          omega
  have wv : Wk E s (d hd + 1) v (by9 d m hd x) := ⟨q hd, m hd, x, h4 hd a2, hE, rfl⟩
  refine ⟨⟨v, _, wv, hg, fun _ => rfl⟩, fun n w y hw hgw => ?_⟩
  cases n with
  | zero =>
    have : w = q 0 := hw.trans h1.symm
    rw [this] at hgw
    exact absurd hgw (a4 0 h3).1
  | succ n =>
    by_cases z : n ≤ d hd
    · have h0 := H3 _ _ _ hw hgw
      obtain ⟨u, f', y', hu, hE', hy⟩ := hw
      have hc1 := H1 n u f' hu y' w hE'
      obtain ⟨j, hj, e, hdj, hmj⟩ := key n u f' z (by omega) hu
      subst e
      have hjl : hd ≤ j := Nat.le_of_not_lt fun q1 => absurd hgw (a7 j q1 y' w hE').1
      have := h5 hd j hjl hj
      have en : n = d hd := by omega
      have ej : d j = d hd := by omega
      refine ⟨by omega, fun _ _ => ?_⟩
      unfold by9
      by_cases z0 : d hd = 0
      · rw [if_pos z0]
        rw [en, if_pos z0] at hy
        have ws : ∀ i, i < tl → d i = 0 → i = 0 := fun i hi e0 => by
          have w0 := h4 i hi
          rw [e0] at w0
          exact h6 i 0 hi h3 (w0.trans h1.symm)
        have j0 := ws j hj (by omega)
        have i0 := ws hd a2 z0
        rw [j0, ← i0] at hE'
        rw [hy]
        exact Nat.le_of_not_lt fun q1 => absurd hgw (a8 y' w (hx y' w hE' q1)).1
      · rw [if_neg z0]
        rw [en, if_neg z0] at hy
        have := a5 hd j hjl hj ej.symm
        have := hmj (by omega) (by omega)
        omega
    · exact ⟨by omega, fun e => by omega⟩
theorem CB_next {V : Type} {E : V → Nat → V → Prop} {s : V} {G : V → Prop} {h : V → Nat} {lim : Nat} {cut : Bool} {q : Nat → V} {d m : Nat → Nat} {hd tl xb : Nat} {D : Nat → V → Prop} (hc : CB E s G h lim cut q d m hd tl xb D) (hD : ∀ x v, E (q hd) x v → D x v) (ht : hd + 1 < tl) : CB E s G h lim cut q d m (hd + 1) tl 0 (fun _ _ => False) := by
  obtain ⟨a1, a2, a3, a4, a5, a6, a7, a8⟩ := hc
  refine ⟨Row_next a1, ht, a3, a4, a5, fun j hj e => ?_, fun i hi x v hv => ?_, fun _ _ f => f.elim⟩
  · obtain ⟨h1, h2, h3, h4, h5, h6, h7⟩ := a1
    have b1 := h5 hd (hd + 1) (by omega) ht
    have b2 := h7 hd j (Nat.le_refl _) a2 hj
    have e1 : d (hd + 1) = d hd := by omega
    have hz : d hd ≠ 0 := fun z => by
      have w0 := h4 (hd + 1) ht
      rw [e1, z] at w0
      have := h6 (hd + 1) 0 ht h3 (w0.trans h1.symm)
      omega
    have b3 := a6 j hj (by omega)
    unfold by9 at b3 ⊢
    rw [if_neg hz] at b3
    rw [if_neg (by omega)]
    exact Nat.le_trans b3 (a5 hd (hd + 1) (by omega) ht e1.symm)
  · by_cases e : i = hd
    · subst e; exact a8 x v (hD x v hv)
    · exact a7 i (by omega) x v hv
theorem CB_end {V : Type} {E : V → Nat → V → Prop} {s : V} {G : V → Prop} {h : V → Nat} {lim : Nat} {q : Nat → V} {d m : Nat → Nat} {hd xb : Nat} {D : Nat → V → Prop} (hc : CB E s G h lim false q d m hd (hd + 1) xb D) (hD : ∀ x v, E (q hd) x v → D x v) (f : Nat) : An E s G none f := by
  obtain ⟨a1, a2, a3, a4, a5, a6, a7, a8⟩ := hc
  have cl : ∀ i, i < hd + 1 → ∀ x v, E (q i) x v → ∃ j, j < hd + 1 ∧ q j = v := fun i hi x v hv => by
    have : Mc9 G h lim false q d m (hd + 1) i x v := by
      by_cases e : i = hd
      · subst e; exact a8 x v (hD x v hv)
      · exact a7 i (by omega) x v hv
    rcases this.2 with b | b
    · cases b.1
    · obtain ⟨j, hj, e, _⟩ := b
      exact ⟨j, hj, e⟩
  have key : ∀ n v x, Wk E s n v x → ∃ j, j < hd + 1 ∧ q j = v := by
    intro n
    induction n with
    | zero => intro v x hw; exact ⟨0, a1.2.2.1, a1.1.trans hw.symm⟩
    | succ n ih =>
      intro v x hw
      obtain ⟨u, f', y, hu, he, _⟩ := hw
      obtain ⟨j, hj, e⟩ := ih u f' hu
      subst e
      exact cl j hj y v he
  intro n v x hw
  obtain ⟨j, hj, e⟩ := key n v x hw
  rw [← e]
  exact (a4 j hj).1
/-- as many as there are codes, at most -/
theorem pig9 {V : Type} {q : Nat → V} {c : V → Nat} {n N : Nat} (hi : ∀ i j, i < n → j < n → c (q i) = c (q j) → i = j) (hl : ∀ i, i < n → c (q i) < N) : n ≤ N := by
  have hd : ((List.range n).map (fun i => c (q i))).Nodup := by
    rw [List.nodup_iff_pairwise_ne, List.pairwise_map]
    refine List.Pairwise.imp_of_mem (R := fun a b => a ≠ b) ?_ (List.nodup_iff_pairwise_ne.mp List.nodup_range)
    intro a b ha hb hne e
    exact hne (hi a b (List.mem_range.mp ha) (List.mem_range.mp hb) e)
  have := nd_len (n := N) hd (fun x hx => by
    obtain ⟨i, hi', e⟩ := List.mem_map.mp hx
    rw [← e]
    exact hl i (List.mem_range.mp hi'))
  simpa using this
/-- levels -/
def LVL (d : Nat → Nat) (i L tl D : Nat) : Prop := i ≤ L ∧ L ≤ tl ∧ (∀ j, j < L → d j ≤ D) ∧ (∀ j, L ≤ j → j < tl → d j = D + 1) ∧ ∀ j, i ≤ j → j < L → d j = D
theorem LVL_next {d d' : Nat → Nat} {i L tl tl' D : Nat} (h : LVL d i L tl D) (hi : i < L) (ht : tl ≤ tl') (h1 : ∀ j, j < tl → d' j = d j) (h2 : ∀ j, tl ≤ j → j < tl' → d' j = d i + 1) : LVL d' (i + 1) L tl' D := by
  obtain ⟨a1, a2, a3, a4, a5⟩ := h
  have e := a5 i (Nat.le_refl _) hi
  refine ⟨hi, by omega, fun j hj => ?_, fun j hj hj2 => ?_, fun j hj hj2 => ?_⟩
  · rw [h1 j (by omega)]; exact a3 j hj
  · by_cases q : j < tl
    · rw [h1 j q]; exact a4 j hj q
    · rw [h2 j (by omega) hj2, e]
  · rw [h1 j (by omega)]; exact a5 j (by omega) hj2
theorem LVL_up {d : Nat → Nat} {L tl D : Nat} (h : LVL d L L tl D) : LVL d L tl tl (D + 1) := by
  obtain ⟨a1, a2, a3, a4, a5⟩ := h
  refine ⟨a2, Nat.le_refl _, fun j hj => ?_, fun j hj hj2 => by omega, fun j hj hj2 => a4 j hj hj2⟩
  by_cases q : j < L
  · have := a3 j q; omega
  · have := a4 j (by omega) hj; omega
