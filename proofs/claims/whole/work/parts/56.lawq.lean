/-! the law's text is read to its end -/
def kmono (K : Nat → LR2) : Prop := ∀ f x, K f = some x → K (f + 1) = some x
theorem kmonoN {K : Nat → LR2} (h : kmono K) {f : Nat} {x : PS × List Tok} (hx : K f = some x) : ∀ k, K (f + k) = some x
  | 0 => hx
  | k + 1 => h _ _ (kmonoN h hx k)
theorem kmax {K : Nat → LR2} (h : kmono K) {f g : Nat} {x : PS × List Tok} (hx : K f = some x) (hg : f ≤ g) : K g = some x := by
  have := kmonoN h hx (g - f)
  rwa [show f + (g - f) = g by omega] at this
theorem andT_end {R : Nat → LR2} {K : Nat → Nat → List Tok → LR2} (hR : kmono R) (hK : ∀ b c, kmono (fun f => K f b c)) (h1 : ∃ f x, R f = some x) (h2 : ∀ f b c, R f = some (.inl b, c) → ∃ f x, K f b c = some x) : ∃ f x, andT (R f) (K f) = some x := by
  obtain ⟨f, ⟨s, c⟩, h⟩ := h1
  cases s with
  | inr q => exact ⟨f, (.inr q, c), by rw [h]; rfl⟩
  | inl b =>
    obtain ⟨g, x, hx⟩ := h2 f b c h
    refine ⟨f + g, x, ?_⟩
    rw [kmax hR h (show f ≤ f + g by omega)]
    exact kmax (hK b c) hx (show g ≤ f + g by omega)
theorem kmono_lp (T : Nat → Nat) (n m o a : Nat) (c : List Tok) : kmono (fun f => lp T n f m o a c) := fun f x h => lp_mono T n f m o a c x h
theorem kmono_c (r : LR2) : kmono (fun _ => r) := fun _ _ h => h
theorem kmono_and {R : Nat → LR2} {K : Nat → Nat → List Tok → LR2} (hR : kmono R) (hK : ∀ b c, kmono (fun f => K f b c)) : kmono (fun f => andT (R f) (K f)) := fun f _ h => andT_mono h (fun _ hy => hR f _ hy) (fun b c hb => hK b c f _ hb)
theorem lp_suc {T : Nat → Nat} {n m o a : Nat} {c : List Tok} (h : ∃ f x, lp T n (f + 1) m o a c = some x) : ∃ f x, lp T n f m o a c = some x := by
  obtain ⟨f, x, h⟩ := h
  exact ⟨f + 1, x, h⟩
theorem lp_end (T : Nat → Nat) (n : Nat) : ∀ (N m o a : Nat) (c : List Tok), n - a ≤ N → a ≤ n → m ≤ 4 → ∃ f x, lp T n f m o a c = some x := by
  intro N
  induction N with
  | zero => ?_
  | succ N ih => ?_
  all_goals
    intro m o a c hN ha hm
    have h1 := tx_ge T n isb a
    have h2 : tx T n isb a ≤ n := tx_le ha
    have h3 := tx_ge T n isl (tx T n isb a)
    have h4 : tx T n isl (tx T n isb a) ≤ n := tx_le h2
    have H : ∀ (m o b : Nat) (c : List Tok), a < b → b ≤ n → m ≤ 4 → ∃ f x, lp T n f m o b c = some x := fun m o b c hb hn hm => by
      first | exact ih m o b c (by omega) hn hm | omega
    have m4 : ∃ f x, lp T n f 4 o a c = some x := by
      apply lp_suc
      by_cases hb : hr T n (tx T n isb a) = some 40
      · have hb2 := (hr_some hb).1
        by_cases h6 : 6 ≤ o
        · exact ⟨0, _, lp_4b hb h6 0 c⟩
        · have := andT_end (R := fun f => lp T n f 0 (o + 1) (tx T n isb a + 1) c) (K := fun f b c => some (psg T n 41 (.inl b), c)) (kmono_lp _ _ _ _ _ _) (fun b c => kmono_c _) (H 0 (o + 1) _ c (by omega) (by omega) (by decide)) (fun f b c h => ⟨0, _, rfl⟩)
          obtain ⟨f, x, h⟩ := this
          exact ⟨f, x, by rw [lp_4c hb h6]; exact h⟩
      · by_cases hd : tb T n isd (tx T n isb a) = true
        · exact ⟨0, _, lp_4d hb hd 0 o c⟩
        · cases hf : fct T (tx T n isb a) (tx T n isl (tx T n isb a)) with
          | some k => exact ⟨0, _, lp_4f hb hd hf 0 o c⟩
          | none =>
            cases ht : two T (tx T n isb a) (tx T n isl (tx T n isb a)) with
            | none => exact ⟨0, _, lp_4n hb hd hf ht 0 o c⟩
            | some k =>
              by_cases h6 : 6 ≤ o
              · exact ⟨0, _, lp_4t hb hd hf ht h6 0 c⟩
              · have htw := two_lt ht
                have goal : ∃ f x, andT ((fun _ => some (psg T n 91 (.inl (tx T n isl (tx T n isb a))), c)) f) ((fun f b1 c => andT (lp T n f 0 (o + 1) b1 c) (fun b2 c => andT (some (psg T n 44 (.inl b2), c)) (fun b3 c => andT (lp T n f 0 (o + 1) b3 c) (fun b4 c => some (psg T n 93 (.inl b4), c ++ [(k, 0)]))))) f) = some x := by
                  refine andT_end (kmono_c _) (fun b c => kmono_and (kmono_lp _ _ _ _ _ _) (fun b c => kmono_and (kmono_c _) (fun b c => kmono_and (kmono_lp _ _ _ _ _ _) (fun b c => kmono_c _)))) ⟨0, _, rfl⟩ (fun f b1 c1 e1 => ?_)
                  have e1a : psg T n 91 (.inl (tx T n isl (tx T n isb a))) = .inl b1 := by
                    have := congrArg (fun x => x.map Prod.fst) e1
                    simpa using this
                  obtain ⟨x, hx, p1, p2⟩ := psg_lt e1a
                  cases hx
                  have p2 := p2 h4
                  refine andT_end (R := fun f => lp T n f 0 (o + 1) b1 c1) (K := fun f b2 c => andT (some (psg T n 44 (.inl b2), c)) (fun b3 c => andT (lp T n f 0 (o + 1) b3 c) (fun b4 c => some (psg T n 93 (.inl b4), c ++ [(k, 0)])))) (kmono_lp _ _ _ _ _ _) (fun b c => kmono_and (kmono_c _) (fun b c => kmono_and (kmono_lp _ _ _ _ _ _) (fun b c => kmono_c _))) (H 0 (o + 1) b1 c1 (by omega) p2 (by decide)) (fun f b2 c2 e2 => ?_)
                  have g1 := lp_len T n f 0 (o + 1) b1 c1 b2 c2 e2 p2
                  refine andT_end (R := fun _ => some (psg T n 44 (.inl b2), c2)) (K := fun f b3 c => andT (lp T n f 0 (o + 1) b3 c) (fun b4 c => some (psg T n 93 (.inl b4), c ++ [(k, 0)]))) (kmono_c _) (fun b c => kmono_and (kmono_lp _ _ _ _ _ _) (fun b c => kmono_c _)) ⟨0, _, rfl⟩ (fun f b3 c3 e3 => ?_)
                  have e3a : psg T n 44 (.inl b2) = .inl b3 := by
                    have := congrArg (fun x => x.map Prod.fst) e3
                    simpa using this
                  obtain ⟨x, hx, p3, p4⟩ := psg_lt e3a
                  cases hx
                  have p4 := p4 g1.2.1
                  exact andT_end (R := fun f => lp T n f 0 (o + 1) b3 c3) (K := fun f b4 c => some (psg T n 93 (.inl b4), c ++ [(k, 0)])) (kmono_lp _ _ _ _ _ _) (fun b c => kmono_c _) (H 0 (o + 1) b3 c3 (by omega) p4 (by decide)) (fun f b c h => ⟨0, _, rfl⟩)
                obtain ⟨f, x, h⟩ := goal
                exact ⟨f, x, by rw [lp_4u hb hd hf ht h6]; exact h⟩
    have m2 : ∃ f x, lp T n f 2 o a c = some x := by
      apply lp_suc
      obtain ⟨f, x, h⟩ := andT_end (R := fun f => lp T n f 4 o a c) (K := fun f b c => lp T n f 3 o b c) (kmono_lp _ _ _ _ _ _) (fun b c => kmono_lp _ _ _ _ _ _) m4 (fun f b c1 e => by
        have g := lp_len T n f 4 o a c b c1 e ha
        exact H 3 o b c1 (g.2.2.2 (by decide) (by decide)) g.2.1 (by decide))
      exact ⟨f, x, h⟩
    match m, hm with
    | 0, _ =>
      apply lp_suc
      obtain ⟨f, x, h⟩ := andT_end (R := fun f => lp T n f 2 o a c) (K := fun f b c => lp T n f 1 o b c) (kmono_lp _ _ _ _ _ _) (fun b c => kmono_lp _ _ _ _ _ _) m2 (fun f b c1 e => by
        have g := lp_len T n f 2 o a c b c1 e ha
        exact H 1 o b c1 (g.2.2.2 (by decide) (by decide)) g.2.1 (by decide))
      exact ⟨f, x, h⟩
    | 1, _ =>
      cases hs : sop T n (tx T n isb a) with
      | none => exact ⟨1, _, lp_1n hs 0 o c⟩
      | some k =>
        have hk := sop_lt hs
        apply lp_suc
        obtain ⟨f, x, h⟩ := andT_end (R := fun f => lp T n f 2 o (tx T n isb a + 1) c) (K := fun f b c => lp T n f 1 o b (c ++ [(k, 0)])) (kmono_lp _ _ _ _ _ _) (fun b c => kmono_lp _ _ _ _ _ _) (H 2 o _ c (by omega) (by omega) (by decide)) (fun f b c1 e => by
          have g := lp_len T n f 2 o _ c b c1 e (by omega)
          exact H 1 o b _ (by omega) g.2.1 (by decide))
        exact ⟨f, x, by rw [lp_1s hs]; exact h⟩
    | 2, _ => exact m2
    | 3, _ =>
      cases hs : pop T n (tx T n isb a) with
      | none => exact ⟨1, _, lp_3n hs 0 o c⟩
      | some k =>
        have hk := pop_lt hs
        apply lp_suc
        obtain ⟨f, x, h⟩ := andT_end (R := fun f => lp T n f 4 o (tx T n isb a + 1) c) (K := fun f b c => lp T n f 3 o b (c ++ [(k, 0)])) (kmono_lp _ _ _ _ _ _) (fun b c => kmono_lp _ _ _ _ _ _) (H 4 o _ c (by omega) (by omega) (by decide)) (fun f b c1 e => by
          have g := lp_len T n f 4 o _ c b c1 e (by omega)
          exact H 3 o b _ (by omega) g.2.1 (by decide))
        exact ⟨f, x, by rw [lp_3s hs]; exact h⟩
    | 4, _ => exact m4
/-! Law: its rows -/
def tkI (t : Tok) : Int32 := match t.1 with
  | 0 => nI t.2
  | 1 => nI (1000 + t.2)
  | k => nI (1098 + k)
def LC (S : qSt) (i : Nat) (c : List Int32) : Prop := q_I S 12 i 3 = nI c.length ∧ c.length ≤ 160 ∧ ∀ k, k < c.length → q_I S 13 i k = c.getD k 0
abbrev Flw (i : Nat) : Nat → Nat → Prop := fun f j => f = 1 ∨ (j = i ∧ (f = 12 ∨ f = 13))
theorem LC.fr {F : Nat → Nat → Prop} {S S' : qSt} {i : Nat} {c : List Int32} (h : LC S i c) (hf : fr F S S') (h1 : ¬ F 12 i) (h2 : ¬ F 13 i) : LC S' i c := by
  unfold LC at *
  rw [(hf 12 i h1).1, (hf 13 i h2).1]
  exact h
theorem lc_r1 {S S' : qSt} {i : Nat} {c : List Int32} (h : LC S i c) (hf : fr Fr1 S S') : LC S' i c := h.fr hf (fun q => by cases q) (fun q => by cases q)
theorem c_lwrite (l : Launch) (S : qSt) {i : Nat} {c : List Int32} (x : Int32) (h : LC S i c) : q_Met q_mt l 0 k_X1_write 0 [.inr (.inr (12, i)), .inl x] S (fun _ S' => (∃ c', LC S' i c' ∧ (c.length < 160 → c' = c ++ [x])) ∧ fr (fun f j => j = i ∧ (f = 12 ∨ f = 13)) S S') := by
  refine q_meth zoX1_write q_fos (Nat.le_of_ble_eq_true rfl) ?_
  intro AT step
  refine step 20 [] 0 _ _ _ ?_
  simp only [q_vcs, q_vcc, q_vl, q_vu, ↓reduceIte, Nat.reduceEqDiff, Bool.false_eq_true, q_isc, q_mk, q_msk, zbX1_write, q_pad, q_ent, q_get, q_put, q_nl, q_w, List.cons_append, List.nil_append, q_aks, q_als, Nat.reduceAdd, Nat.reduceLeDiff, Nat.zero_le, true_and, and_true, Option.some.injEq, Sum.inl.injEq, Sum.inr.injEq, true_or, or_true, and_self, q_sw]
  obtain ⟨h1, h2, h3⟩ := h
  rw [h1, show Int32.ofNat 160 = nI 160 from rfl, nI_leI (by decide) (by omega), i_cl (by omega)]
  refine ⟨by decide, fun h => ⟨⟨c, ⟨h1, h2, h3⟩, fun h' => by omega⟩, fr.rf⟩, fun h => ⟨i_in (by omega) (by decide), ?_⟩⟩
  have e1 : q_I (q_wI S 13 i c.length x) 12 i 3 = nI c.length := h1
  rw [e1, nI_1]
  refine ⟨⟨c ++ [x], ⟨?_, by simp; omega, fun k hk => ?_⟩, fun _ => rfl⟩, fr.wI (fr.wI fr.rf ⟨rfl, Or.inr rfl⟩) ⟨rfl, Or.inl rfl⟩⟩
  · rw [q_I_wI, if_pos ⟨rfl, rfl, rfl⟩]; simp
  · simp at hk
    rw [q_I_wI, if_neg (by omega), q_I_wI, List.getD_eq_getElem?_getD]
    by_cases e : k = c.length
    · subst e
      simp
    · rw [if_neg (by omega), h3 k (by omega), List.getElem?_append_left (by omega), List.getD_eq_getElem?_getD]
theorem c_factOf (l : Launch) (S : qSt) {T : Nat → Nat} {n a w : Nat} (hR : RD S T n a none) (hw : q_I S 1 0 4 = nI w) (hwa : w ≤ a) : q_Met q_mt l 5 k_X1_factOf 1 [.inr (.inr (1, 0))] S (fun r S' => r = some (.inl (oI (fct T w a))) ∧ S' = S) := by
  refine q_meth zoX1_factOf q_fos (Nat.le_of_ble_eq_true rfl) ?_
  intro AT step
  refine step 20 [] 0 _ _ _ ?_
  simp only [q_vcs, q_vcc, q_vl, q_vu, ↓reduceIte, Nat.reduceEqDiff, Bool.false_eq_true, q_isc, q_mk, q_msk, zbX1_factOf, q_pad, q_ent, q_get, q_put, q_nl, q_w, List.cons_append, List.nil_append, q_aks, q_als, Nat.reduceAdd, Nat.reduceLeDiff, Nat.zero_le, true_and, and_true, Option.some.injEq, Sum.inl.injEq, Sum.inr.injEq, true_or, or_true, and_self, q_sw]
  unfold fct
  refine q_u1 (by decide) (c_isWord l S hR hw hwa (i := 7) (by decide)) ?_
  rw [bI_0, isw0]
  refine ⟨fun h => ?_, fun h => ?_⟩
  rotate_left
  · rw [if_pos (Classical.not_not.mp h)]; exact (by first | trivial | rfl | exact ⟨rfl, rfl⟩)
  rw [if_neg h]
  clear h
  refine q_u1 (by decide) (c_isWord l S hR hw hwa (i := 8) (by decide)) ?_
  rw [bI_0, isw0]
  refine ⟨fun h => ?_, fun h => ?_⟩
  rotate_left
  · rw [if_pos (Classical.not_not.mp h)]; exact (by first | trivial | rfl | exact ⟨rfl, rfl⟩)
  rw [if_neg h]
  clear h
  refine q_u1 (by decide) (c_isWord l S hR hw hwa (i := 9) (by decide)) ?_
  rw [bI_0, isw0]
  refine ⟨fun h => ?_, fun h => ?_⟩
  rotate_left
  · rw [if_pos (Classical.not_not.mp h)]; exact (by first | trivial | rfl | exact ⟨rfl, rfl⟩)
  rw [if_neg h]
  clear h
  refine q_u1 (by decide) (c_isWord l S hR hw hwa (i := 4) (by decide)) ?_
  rw [bI_0, isw0]
  refine ⟨fun h => ?_, fun h => ?_⟩
  rotate_left
  · rw [if_pos (Classical.not_not.mp h)]; exact (by first | trivial | rfl | exact ⟨rfl, rfl⟩)
  rw [if_neg h]
  clear h
  refine q_u1 (by decide) (c_isWord l S hR hw hwa (i := 3) (by decide)) ?_
  rw [bI_0, isw0]
  refine ⟨fun h => ?_, fun h => ?_⟩
  rotate_left
  · rw [if_pos (Classical.not_not.mp h)]; exact (by first | trivial | rfl | exact ⟨rfl, rfl⟩)
  rw [if_neg h]
  clear h
  refine q_u1 (by decide) (c_isWord l S hR hw hwa (i := 10) (by decide)) ?_
  rw [bI_0, isw0]
  refine ⟨fun h => ?_, fun h => ?_⟩
  rotate_left
  · rw [if_pos (Classical.not_not.mp h)]; exact (by first | trivial | rfl | exact ⟨rfl, rfl⟩)
  rw [if_neg h]
  clear h
  refine q_u1 (by decide) (c_isWord l S hR hw hwa (i := 11) (by decide)) ?_
  rw [bI_0, isw0]
  refine ⟨fun h => ?_, fun h => ?_⟩
  rotate_left
  · rw [if_pos (Classical.not_not.mp h)]; exact (by first | trivial | rfl | exact ⟨rfl, rfl⟩)
  rw [if_neg h]
  clear h
  refine q_u1 (by decide) (c_isWord l S hR hw hwa (i := 12) (by decide)) ?_
  rw [bI_0, isw0]
  refine ⟨fun h => ?_, fun h => ?_⟩
  · rw [if_neg h]; exact (by first | trivial | rfl | exact ⟨rfl, rfl⟩)
  · rw [if_pos (Classical.not_not.mp h)]; exact (by first | trivial | rfl | exact ⟨rfl, rfl⟩)
