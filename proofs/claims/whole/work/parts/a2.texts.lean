/-! The class: texts fed and read -/
def aTx (a : AS) (T : Nat → Nat) (hd : Nat) (fp : Option Nat) : AS := mkA (aY a) (aC a) (aLn a) (aOi a) (aW a) (aH a) (aNi a) (aIm a) T hd fp (aRs a) (aRn a) (aRi a)
theorem CL_rd {S S' : qSt} {t : Nat} {a : AS} (h : CL S t a) (hf : fr (fun f i => f = 1 ∨ f = 2 ∨ (3 ≤ f ∧ f ≤ 11 ∧ i ≠ q_M S 0 0 1) ∨ ((f = 12 ∨ f = 13) ∧ i ≠ q_M S 0 0 3) ∨ ((f = 16 ∨ f = 17) ∧ i ≠ q_M S 0 0 5) ∨ (18 ≤ f ∧ f ≤ 23)) S S') {T : Nat → Nat} {hd : Nat} {fp : Option Nat} (hT : TP S' T hd) (h7 : q_I S' 1 0 6 = oI fp) : CL S' t (aTx a T hd fp) := by
  obtain ⟨h1, h2, h3, h4, h5, _, _, h8, h9⟩ := h
  have e0 := hf 0 0 (by omega)
  refine ⟨?_, ?_, ?_, h4.fr hf (by omega) (fun i _ => ⟨by omega, by omega⟩), ⟨?_, fun i hi => (h5.2 i hi).fr hf (by omega) (fun i _ => ⟨by omega, by omega⟩)⟩, hT, h7, ?_, h9.fr hf (by omega) (by omega)⟩
  · unfold CL1
    rw [e0.2.2]
    exact ⟨h1.1, h1.2.1, h1.2.2.1, h1.2.2.2.fr hf (fun f _ _ q => by omega)⟩
  · unfold CL2
    rw [e0.2.2]
    exact ⟨h2.1, h2.2.1, h2.2.2.1, LC.fr h2.2.2.2 hf (by omega) (by omega)⟩
  · unfold CL3
    rw [e0.2.2]
    exact ⟨h3.1, h3.2.1, h3.2.2.1, h3.2.2.2.fr9 hf (by omega)⟩
  · rw [e0.1]; exact h5.1
  · unfold CL8
    rw [e0.1]
    exact h8
def sp_feed (a : AS) (x1 x2 x3 x4 x5 : Int32) : SPR := if aHd a + 20 ≤ 600 then (.inr (nI (aHd a + 20)), aTx a (fd5 (aT a) (aHd a) x1 x2 x3 x4 x5) (aHd a + 20) (aFp a)) else (.inr (-1), a)
theorem a_feed (l : Launch) {S : qSt} {t : Nat} {a : AS} (hC : CL S t a) (x1 x2 x3 x4 x5 : Int32) : CA l k_X10_feed [.inr (.inr (0, 0)), .inl x1, .inl x2, .inl x3, .inl x4, .inl x5] S t nmI (sp_feed a x1 x2 x3 x4 x5) := by
  unfold sp_feed
  by_cases h : aHd a + 20 ≤ 600
  · rw [if_pos h]
    refine CA_r (d := 1) (by decide) ((c_feed l S x1 x2 x3 x4 x5 hC.2.2.2.2.2.1 h).post (fun r S' q => ?_))
    obtain ⟨q1, q2, q3, q4⟩ := q
    exact ⟨q1, ⟨t, by omega, CL_rd hC (q4.mn (fun f i z => by omega)) q2 (by rw [q3 6 (by decide)]; exact hC.2.2.2.2.2.2.1)⟩, q4.mn (fun f i z => by show f < 40; omega)⟩
  · rw [if_neg h]
    exact CA_s (d := 1) (by decide) hC (c_feedN l S x1 x2 x3 x4 x5 hC.2.2.2.2.2.1 h)
noncomputable def lpA (T : Nat → Nat) (n : Nat) : PS × List Tok := Classical.epsilon (fun x => ∃ f, lp T n f 0 0 0 [] = some x)
theorem lpA_ex (T : Nat → Nat) (n : Nat) : ∃ f, lp T n f 0 0 0 [] = some (lpA T n) := by
  obtain ⟨f, x, h⟩ := lp_end T n n 0 0 0 [] (by omega) (by omega) (by omega)
  exact Classical.epsilon_spec (p := fun x => ∃ f, lp T n f 0 0 0 [] = some x) ⟨x, f, h⟩
noncomputable def wpA (T : Nat → Nat) (n : Nat) (Y : YD) (cd : List Tok) : PS × WF := Classical.epsilon (fun x => ∃ f, wp T n Y cd f 0 0 0 = some x)
theorem wpA_ex (T : Nat → Nat) (n : Nat) (Y : YD) (cd : List Tok) : ∃ f, wp T n Y cd f 0 0 0 = some (wpA T n Y cd) := by
  obtain ⟨f, x, h⟩ := wp_end (T := T) (n := n) (Y := Y) (cd := cd) n 0 0 0 (by omega) (by omega) (by omega)
  exact Classical.epsilon_spec (p := fun x => ∃ f, wp T n Y cd f 0 0 0 = some x) ⟨x, f, h⟩
def aYn (a : AS) (Y : YD) : AS := mkA Y defc 0 0 0 (aH a) 0 (aIm a) (aT a) 0 none 0 (aRn a) (aRi a)
def sp_yard1 (a : AS) (n : Nat) : SPR := match (yrl (aT a) n 62 0 0 Y0).1 with
  | .inl _ => (.inr (nI ((yrl (aT a) n 62 0 0 Y0).2 1 0)), aYn a (yrl (aT a) n 62 0 0 Y0).2)
  | .inr q => (.inr (nI q.1 - 10), aTx a (aT a) 0 (some q.2))
noncomputable def sp_yard (a : AS) (x : Int32) : SPR := spI a (0 ≤ x ∧ x ≤ nI (aHd a)) (sp_yard1 a x.toNatClampNeg)
def aLw (a : AS) (cd : List Tok) : AS := mkA (aY a) cd (aLn a) (aOi a) (aW a) (aH a) (aNi a) (aIm a) (aT a) 0 none (aRs a) (aRn a) (aRi a)
noncomputable def sp_law1 (a : AS) (n : Nat) : SPR := match lend (aT a) n (lpA (aT a) n).1 with
  | .inl _ => (.inr 1, aLw a (lpA (aT a) n).2)
  | .inr q => (.inr (nI q.1 - 10), aTx a (aT a) 0 (some q.2))
noncomputable def sp_law (a : AS) (x : Int32) : SPR := spI a (0 ≤ x ∧ x ≤ nI (min (aHd a) 150)) (sp_law1 a x.toNatClampNeg)
def aSp (a : AS) (ln oi : Nat) : AS := mkA (aY a) (aC a) ln oi (aW a) (aH a) (aNi a) (aIm a) (aT a) 0 none (aRs a) (aRn a) (aRi a)
def sp_spots1 (a : AS) (n : Nat) : SPR := match (srl (aT a) n (aY a) 61 0 0 0).1 with
  | .inl _ => (.inr (nI (pcn (srl (aT a) n (aY a) 61 0 0 0).2.1)), aSp a (srl (aT a) n (aY a) 61 0 0 0).2.1 (srl (aT a) n (aY a) 61 0 0 0).2.2)
  | .inr q => (.inr (nI q.1 - 10), aTx a (aT a) 0 (some q.2))
noncomputable def sp_spots (a : AS) (x : Int32) : SPR := spI a (0 ≤ x ∧ x ≤ nI (min (aHd a) 60)) (sp_spots1 a x.toNatClampNeg)
def aWk (a : AS) (s : WS) : AS := mkA (aY a) (aC a) (aLn a) (aOi a) (aW a + 1) (fun i => if i = aW a + 1 then s.2.2.2 else aH a i) (aNi a) (aIm a) (aT a) 0 none s.2.2.1 (aRn a) (aRi a)
noncomputable def sp_work1 (a : AS) (n : Nat) : SPR := if aW a = 16 then (.inr (-20), aTx a (aT a) 0 none) else match (wpA (aT a) n (aY a) (aC a)).1 with
  | .inl _ => (.inr (nI ((wpA (aT a) n (aY a) (aC a)).2 (0, 0, 0, aV a)).2.1), aWk a ((wpA (aT a) n (aY a) (aC a)).2 (0, 0, 0, aV a)))
  | .inr q => (.inr (nI q.1 - 10), aTx a (aT a) 0 (some q.2))
noncomputable def sp_work (a : AS) (x : Int32) : SPR := spI a (0 ≤ x ∧ x ≤ nI (min (aHd a) 150)) (sp_work1 a x.toNatClampNeg)
theorem RS_l {S : qSt} {T : Nat → Nat} {n b : Nat} {s : PS} (h : RS S T n s) (e : s = .inl b) : RD S T n b none := by
  rw [e] at h
  exact h
theorem RS_r {S : qSt} {T : Nat → Nat} {n : Nat} {q : Nat × Nat} {s : PS} (h : RS S T n s) (e : s = .inr q) : ∃ b, RD S T n b (some q) := by
  rw [e] at h
  exact h
theorem RD_7 {S : qSt} {T : Nat → Nat} {n b : Nat} {e : Option (Nat × Nat)} (h : RD S T n b e) : q_I S 1 0 6 = oI (e.map Prod.snd) := h.2.1.2.2.2.2
theorem RD_5 {S : qSt} {T : Nat → Nat} {n b : Nat} {q : Nat × Nat} (h : RD S T n b (some q)) : q_I S 1 0 5 = nI q.1 := h.2.1.2.2.2.1
theorem CL_fr0 {F : Nat → Nat → Prop} {S S' : qSt} (hf : fr F S S') (h : ∀ f i, F f i → f < 40) : fr Fcl S S' := hf.mn h
theorem a_law (l : Launch) (hl : l.stackTraces = false) {S : qSt} {t : Nat} {a : AS} {B : Nat} (hC : CL S t a) (hO : OKA a B) (ht : t + 25 < 65536) (x : Int32) : CA l k_X10_law [.inr (.inr (0, 0)), .inl x] S t nmI (sp_law a x) := by
  have hT := hC.2.2.2.2.2.1
  have hd6 := hO.2.2.2.2.2.2.1
  unfold sp_law
  by_cases h2 : 0 ≤ x ∧ x ≤ nI (min (aHd a) 150)
  · rw [spI_2 h2]
    obtain ⟨n, hn, rfl⟩ := i_rng (m := (min (aHd a) 150)) (by omega) h2.1 h2.2
    rw [i_cl (by omega)]
    obtain ⟨f, hlp⟩ := lpA_ex (aT a) n
    have hi1 := hC.2.1
    refine ⟨50, by decide, ?_⟩
    show match (sp_law1 a n).1 with
      | .inl c => q_Thr q_mt l 50 k_X10_law 1 [.inr (.inr (0, 0)), .inl (nI n)] S (fun E S' => E = nmI c ∧ CL S' t (sp_law1 a n).2 ∧ fr Fcl S S')
      | .inr v => q_Met q_mt l 50 k_X10_law 1 [.inr (.inr (0, 0)), .inl (nI n)] S (fun x S' => x = some (.inl v) ∧ (∃ t', t' ≤ t + 25 ∧ CL S' t' (sp_law1 a n).2) ∧ fr Fcl S S')
    have key : ∃ v, (sp_law1 a n).1 = .inr v := by
      unfold sp_law1
      split <;> exact ⟨_, rfl⟩
    obtain ⟨v, hv⟩ := key
    rw [hv]
    refine q_meth zoX10_law q_fos (Nat.le_of_ble_eq_true rfl) ?_
    intro AT step
    refine step 40 [] 0 _ _ _ ?_
    simp only [q_vcs, q_vcc, q_vl, q_vu, ↓reduceIte, Nat.reduceEqDiff, Bool.false_eq_true, q_isc, q_mk, q_msk, zbX10_law, q_pad, q_ent, q_get, q_put, q_nl, q_w, List.cons_append, List.nil_append, q_aks, q_als, Nat.reduceAdd, Nat.reduceLeDiff, Nat.zero_le, true_and, and_true, Option.some.injEq, Sum.inl.injEq, Sum.inr.injEq, true_or, or_true, and_self, q_sw]
    rw [hT.2.1, show (150 : Int32) = nI 150 from rfl, i_min (a := 150) (b := aHd a) (by decide) (by omega), Nat.min_comm]
    refine ⟨by decide, ?_⟩
    refine q_u1 (by decide) (c_isWithin l S (nI n) 0 (nI (min (aHd a) 150))) ?_
    rw [decide_eq_true h2]
    refine q_u0 (by decide) (c_need1 l S) ?_
    refine ⟨_, _, (by decide : 1 < 50), c_open l S hT (by omega), fun S1 h1 => ?_⟩
    obtain ⟨r1, f1⟩ := h1
    have e1 := f1 0 0 (by decide)
    rw [e1.2.2]
    refine ⟨_, _, (by decide : 40 < 50), c_lread l S1 (by omega) r1 hlp (i := q_M S 0 0 4), fun S2 h2 => ?_⟩
    obtain ⟨r2, ⟨c', r3, r4⟩, f2⟩ := h2
    have f12 : fr (fun f i => f = 1 ∨ ((f = 12 ∨ f = 13) ∧ i = q_M S 0 0 4)) S S2 := (f1.mn (fun f i z => Or.inl z)).tr (f2.mn (fun f i z => by rcases z with z | z; exact Or.inl z; exact Or.inr ⟨z.2, z.1⟩))
    have e2 := f12 0 0 (by omega)
    have hne := hi1.2.2.1
    unfold sp_law1 at hv ⊢
    cases hs : lend (aT a) n (lpA (aT a) n).1 with
    | inl b =>
      rw [hs] at hv r4
      cases hv
      have rd := RS_l r2 hs
      refine q_u1 (by decide) (c_isSound l S2 rd) ?_
      refine ⟨fun _ => ?_, fun z => absurd z (by decide)⟩
      have hc' := r4 rfl
      subst hc'
      rw [e2.2.2]
      have hM3 : ∀ j, q_M (q_wM (q_wM S2 0 0 4 (q_M S 0 0 3)) 0 0 3 (q_M S 0 0 4)) 0 0 j = if j = 3 then q_M S 0 0 4 else if j = 4 then q_M S 0 0 3 else q_M S 0 0 j := fun j => by
        rw [q_M_wM, q_M_wM, e2.2.2]
        simp
      have hC2 := CL_rd (T := aT a) (hd := 0) (fp := none) hC (f12.mn (fun f i z => by omega)) (RS.tp r2) (by rw [RD_7 rd]; rfl)
      have f13 : fr (fun f i => f = 0) S2 (q_wM (q_wM S2 0 0 4 (q_M S 0 0 3)) 0 0 3 (q_M S 0 0 4)) := fr.wM (F := fun f _ => f = 0) (fr.wM fr.rf rfl) rfl
      refine ⟨rfl, ⟨t, by omega, ?_⟩, ?_⟩
      · obtain ⟨k1, k2, k3, k4, k5, k6, k7, k8, k9⟩ := hC2
        refine ⟨?_, ?_, ?_, k4.fr f13 (by omega) (fun i _ => ⟨by omega, by omega⟩), ⟨k5.1, fun i hi => (k5.2 i hi).fr f13 (by omega) (fun i _ => ⟨by omega, by omega⟩)⟩, k6.fr f13 (by omega) (by omega), k7, k8, k9.fr f13 (by omega) (by omega)⟩
        · unfold CL1 at k1 ⊢
          rw [e2.2.2] at k1
          rw [hM3, hM3]
          exact ⟨k1.1, k1.2.1, k1.2.2.1, k1.2.2.2.fr f13 (fun f _ _ q => by omega)⟩
        · unfold CL2
          rw [hM3, hM3]
          exact ⟨hi1.2.1, hi1.1, fun z => hne z.symm, LC.fr r3 f13 (by omega) (by omega)⟩
        · unfold CL3 at k3 ⊢
          rw [e2.2.2] at k3
          rw [hM3, hM3]
          exact ⟨k3.1, k3.2.1, k3.2.2.1, k3.2.2.2.fr9 f13 (by omega)⟩
      · exact (f12.mn (fun f i z => by show f < 40; omega)).tr (f13.mn (fun f i z => by show f < 40; omega))
    | inr q =>
      rw [hs] at hv
      cases hv
      obtain ⟨b, rd⟩ := RS_r r2 hs
      refine q_u1 (by decide) (c_isSound l S2 rd) ?_
      refine ⟨fun z => absurd rfl z, fun _ => ?_⟩
      rw [RD_5 rd]
      exact ⟨rfl, ⟨t, by omega, CL_rd (T := aT a) (hd := 0) (fp := some q.2) hC (f12.mn (fun f i z => by omega)) (RS.tp r2) (by rw [RD_7 rd]; rfl)⟩, f12.mn (fun f i z => by show f < 40; omega)⟩
  · rw [spI_1 h2]
    refine CA_x (d := 7) (by decide) ?_
    refine q_methC zoX10_law (Nat.le_of_ble_eq_true rfl) ?_
    intro AT step hX
    refine step 40 [(1, [true, true, true])] 0 _ _ _ ?_
    simp only [q_vcs, q_vcc, q_vl, q_vu, ↓reduceIte, Nat.reduceEqDiff, Bool.false_eq_true, q_isc, q_mk, q_msk, zbX10_law, q_pad, q_ent, q_get, q_put, q_nl, q_w, List.cons_append, List.nil_append, q_aks, q_als, Nat.reduceAdd, Nat.reduceLeDiff, Nat.zero_le, true_and, and_true, Option.some.injEq, Sum.inl.injEq, Sum.inr.injEq, true_or, or_true, and_self, q_sw]
    rw [hT.2.1, show (150 : Int32) = nI 150 from rfl, i_min (a := 150) (b := aHd a) (by decide) (by omega), Nat.min_comm]
    refine ⟨by decide, ?_⟩
    refine q_u1 (by decide) (c_isWithin l S x 0 (nI (min (aHd a) 150))) ?_
    rw [decide_eq_false h2]
    exact hX 1 _ _ _ ⟨_, _, _, _, _, _, _, _, _, _, _, _, _, zbX10_law.2.1, rfl, Nat.le_of_ble_eq_true rfl, Nat.le_of_ble_eq_true rfl, by decide, c_needX l hl hC nmI 1 rfl⟩
theorem a_spots (l : Launch) (hl : l.stackTraces = false) {S : qSt} {t : Nat} {a : AS} {B : Nat} (hC : CL S t a) (hO : OKA a B) (ht : t + 25 < 65536) (x : Int32) : CA l k_X10_spots [.inr (.inr (0, 0)), .inl x] S t nmI (sp_spots a x) := by
  have hT := hC.2.2.2.2.2.1
  have hd6 := hO.2.2.2.2.2.2.1
  unfold sp_spots
  by_cases h2 : 0 ≤ x ∧ x ≤ nI (min (aHd a) 60)
  · rw [spI_2 h2]
    obtain ⟨n, hn, rfl⟩ := i_rng (m := (min (aHd a) 60)) (by omega) h2.1 h2.2
    rw [i_cl (by omega)]
    have hi1 := hC.2.2.1
    refine ⟨50, by decide, ?_⟩
    show match (sp_spots1 a n).1 with
      | .inl c => q_Thr q_mt l 50 k_X10_spots 1 [.inr (.inr (0, 0)), .inl (nI n)] S (fun E S' => E = nmI c ∧ CL S' t (sp_spots1 a n).2 ∧ fr Fcl S S')
      | .inr v => q_Met q_mt l 50 k_X10_spots 1 [.inr (.inr (0, 0)), .inl (nI n)] S (fun x S' => x = some (.inl v) ∧ (∃ t', t' ≤ t + 25 ∧ CL S' t' (sp_spots1 a n).2) ∧ fr Fcl S S')
    have key : ∃ v, (sp_spots1 a n).1 = .inr v := by
      unfold sp_spots1
      split <;> exact ⟨_, rfl⟩
    obtain ⟨v, hv⟩ := key
    rw [hv]
    refine q_meth zoX10_spots q_fos (Nat.le_of_ble_eq_true rfl) ?_
    intro AT step
    refine step 40 [] 0 _ _ _ ?_
    simp only [q_vcs, q_vcc, q_vl, q_vu, ↓reduceIte, Nat.reduceEqDiff, Bool.false_eq_true, q_isc, q_mk, q_msk, zbX10_spots, q_pad, q_ent, q_get, q_put, q_nl, q_w, List.cons_append, List.nil_append, q_aks, q_als, Nat.reduceAdd, Nat.reduceLeDiff, Nat.zero_le, true_and, and_true, Option.some.injEq, Sum.inl.injEq, Sum.inr.injEq, true_or, or_true, and_self, q_sw]
    rw [hT.2.1, show (60 : Int32) = nI 60 from rfl, i_min (a := 60) (b := aHd a) (by decide) (by omega), Nat.min_comm]
    refine ⟨by decide, ?_⟩
    refine q_u1 (by decide) (c_isWithin l S (nI n) 0 (nI (min (aHd a) 60))) ?_
    rw [decide_eq_true h2]
    refine q_u0 (by decide) (c_need1 l S) ?_
    refine ⟨_, _, (by decide : 1 < 50), c_open l S hT (by omega), fun S1 h1 => ?_⟩
    obtain ⟨r1, f1⟩ := h1
    have e1 := f1 0 0 (by decide)
    rw [e1.2.2]
    refine ⟨_, _, (by decide : 4 < 50), c_sread l S1 hO.1 (hC.1.2.2.2.1.fr f1 (fun f _ _ q => by have : f = 1 := q; omega)) r1 (by omega) (i := q_M S 0 0 6), fun S2 h2 => ?_⟩
    obtain ⟨r2, ⟨ln', oi', r3, r4⟩, f2⟩ := h2
    have f12 : fr (fun f i => f = 1 ∨ (f = 16 ∧ i = q_M S 0 0 6)) S S2 := (f1.mn (fun f i z => Or.inl z)).tr f2
    have e2 := f12 0 0 (by omega)
    have hne := hi1.2.2.1
    unfold sp_spots1 at hv ⊢
    cases hs : (srl (aT a) n (aY a) 61 0 0 0).1 with
    | inl b =>
      rw [hs] at hv r4
      cases hv
      have rd := RS_l r2 hs
      refine q_u1 (by decide) (c_isSound l S2 rd) ?_
      refine ⟨fun _ => ?_, fun z => absurd z (by decide)⟩
      obtain ⟨g1, g2⟩ := r4 rfl
      subst g1
      subst g2
      rw [e2.2.2]
      have hM3 : ∀ j, q_M (q_wM (q_wM S2 0 0 6 (q_M S 0 0 5)) 0 0 5 (q_M S 0 0 6)) 0 0 j = if j = 5 then q_M S 0 0 6 else if j = 6 then q_M S 0 0 5 else q_M S 0 0 j := fun j => by
        rw [q_M_wM, q_M_wM, e2.2.2]
        simp
      have hC2 := CL_rd (T := aT a) (hd := 0) (fp := none) hC (f12.mn (fun f i z => by omega)) (RS.tp r2) (by rw [RD_7 rd]; rfl)
      have f13 : fr (fun f i => f = 0) S2 (q_wM (q_wM S2 0 0 6 (q_M S 0 0 5)) 0 0 5 (q_M S 0 0 6)) := fr.wM (F := fun f _ => f = 0) (fr.wM fr.rf rfl) rfl
      have r3' := r3.fr9 f13 (by omega)
      rw [hM3, if_pos rfl, r3'.1]
      refine q_u1 (by decide) (c_bitCount l _ r3.2.2.1) ?_
      refine ⟨rfl, ⟨t, by omega, ?_⟩, ?_⟩
      · obtain ⟨k1, k2, k3, k4, k5, k6, k7, k8, k9⟩ := hC2
        refine ⟨?_, ?_, ?_, k4.fr f13 (by omega) (fun i _ => ⟨by omega, by omega⟩), ⟨k5.1, fun i hi => (k5.2 i hi).fr f13 (by omega) (fun i _ => ⟨by omega, by omega⟩)⟩, k6.fr f13 (by omega) (by omega), k7, k8, k9.fr f13 (by omega) (by omega)⟩
        · unfold CL1 at k1 ⊢
          rw [e2.2.2] at k1
          rw [hM3, hM3]
          exact ⟨k1.1, k1.2.1, k1.2.2.1, k1.2.2.2.fr f13 (fun f _ _ q => by omega)⟩
        · unfold CL2 at k2 ⊢
          rw [e2.2.2] at k2
          rw [hM3, hM3]
          exact ⟨k2.1, k2.2.1, k2.2.2.1, LC.fr k2.2.2.2 f13 (by omega) (by omega)⟩
        · unfold CL3
          rw [hM3, hM3]
          exact ⟨hi1.2.1, hi1.1, fun z => hne z.symm, r3'⟩
      · exact (f12.mn (fun f i z => by show f < 40; omega)).tr (f13.mn (fun f i z => by show f < 40; omega))
    | inr q =>
      rw [hs] at hv
      cases hv
      obtain ⟨b, rd⟩ := RS_r r2 hs
      refine q_u1 (by decide) (c_isSound l S2 rd) ?_
      refine ⟨fun z => absurd rfl z, fun _ => ?_⟩
      rw [RD_5 rd]
      exact ⟨rfl, ⟨t, by omega, CL_rd (T := aT a) (hd := 0) (fp := some q.2) hC (f12.mn (fun f i z => by omega)) (RS.tp r2) (by rw [RD_7 rd]; rfl)⟩, f12.mn (fun f i z => by show f < 40; omega)⟩
  · rw [spI_1 h2]
    refine CA_x (d := 7) (by decide) ?_
    refine q_methC zoX10_spots (Nat.le_of_ble_eq_true rfl) ?_
    intro AT step hX
    refine step 40 [(1, [true, true, true])] 0 _ _ _ ?_
    simp only [q_vcs, q_vcc, q_vl, q_vu, ↓reduceIte, Nat.reduceEqDiff, Bool.false_eq_true, q_isc, q_mk, q_msk, zbX10_spots, q_pad, q_ent, q_get, q_put, q_nl, q_w, List.cons_append, List.nil_append, q_aks, q_als, Nat.reduceAdd, Nat.reduceLeDiff, Nat.zero_le, true_and, and_true, Option.some.injEq, Sum.inl.injEq, Sum.inr.injEq, true_or, or_true, and_self, q_sw]
    rw [hT.2.1, show (60 : Int32) = nI 60 from rfl, i_min (a := 60) (b := aHd a) (by decide) (by omega), Nat.min_comm]
    refine ⟨by decide, ?_⟩
    refine q_u1 (by decide) (c_isWithin l S x 0 (nI (min (aHd a) 60))) ?_
    rw [decide_eq_false h2]
    exact hX 1 _ _ _ ⟨_, _, _, _, _, _, _, _, _, _, _, _, _, zbX10_spots.2.1, rfl, Nat.le_of_ble_eq_true rfl, Nat.le_of_ble_eq_true rfl, by decide, c_needX l hl hC nmI 1 rfl⟩
theorem a_yard (l : Launch) (hl : l.stackTraces = false) {S : qSt} {t : Nat} {a : AS} {B : Nat} (hC : CL S t a) (hO : OKA a B) (ht : t + 25 < 65536) (hB : aH a 0 = V0) (x : Int32) : CA l k_X10_yard [.inr (.inr (0, 0)), .inl x] S t nmI (sp_yard a x) := by
  have hT := hC.2.2.2.2.2.1
  have hd6 := hO.2.2.2.2.2.2.1
  unfold sp_yard
  by_cases h2 : 0 ≤ x ∧ x ≤ nI (aHd a)
  · rw [spI_2 h2]
    obtain ⟨n, hn, rfl⟩ := i_rng (m := (aHd a)) (by omega) h2.1 h2.2
    rw [i_cl (by omega)]
    have hi1 := hC.1
    refine ⟨50, by decide, ?_⟩
    show match (sp_yard1 a n).1 with
      | .inl c => q_Thr q_mt l 50 k_X10_yard 1 [.inr (.inr (0, 0)), .inl (nI n)] S (fun E S' => E = nmI c ∧ CL S' t (sp_yard1 a n).2 ∧ fr Fcl S S')
      | .inr v => q_Met q_mt l 50 k_X10_yard 1 [.inr (.inr (0, 0)), .inl (nI n)] S (fun x S' => x = some (.inl v) ∧ (∃ t', t' ≤ t + 25 ∧ CL S' t' (sp_yard1 a n).2) ∧ fr Fcl S S')
    have key : ∃ v, (sp_yard1 a n).1 = .inr v := by
      unfold sp_yard1
      split <;> exact ⟨_, rfl⟩
    obtain ⟨v, hv⟩ := key
    rw [hv]
    refine q_meth zoX10_yard q_fos (Nat.le_of_ble_eq_true rfl) ?_
    intro AT step
    refine step 40 [] 0 _ _ _ ?_
    simp only [q_vcs, q_vcc, q_vl, q_vu, ↓reduceIte, Nat.reduceEqDiff, Bool.false_eq_true, q_isc, q_mk, q_msk, zbX10_yard, q_pad, q_ent, q_get, q_put, q_nl, q_w, List.cons_append, List.nil_append, q_aks, q_als, Nat.reduceAdd, Nat.reduceLeDiff, Nat.zero_le, true_and, and_true, Option.some.injEq, Sum.inl.injEq, Sum.inr.injEq, true_or, or_true, and_self, q_sw]
    rw [hT.2.1]
    refine q_u1 (by decide) (c_isWithin l S (nI n) 0 (nI (aHd a))) ?_
    rw [decide_eq_true h2]
    refine q_u0 (by decide) (c_need1 l S) ?_
    refine ⟨_, _, (by decide : 1 < 50), c_open l S hT (by omega), fun S1 h1 => ?_⟩
    obtain ⟨r1, f1⟩ := h1
    have e1 := f1 0 0 (by decide)
    rw [e1.2.2]
    refine ⟨_, _, (by decide : 7 < 50), c_yread l S1 r1 (y := q_M S 0 0 2), fun S2 h2 => ?_⟩
    obtain ⟨r2, ⟨Y', hY', r3, r4⟩, f2⟩ := h2
    have f12 : fr (fun f i => f = 1 ∨ (i = q_M S 0 0 2 ∧ 3 ≤ f ∧ f ≤ 11)) S S2 := (f1.mn (fun f i z => Or.inl z)).tr f2
    have e2 := f12 0 0 (by omega)
    have hne := hi1.2.2.1
    unfold sp_yard1 at hv ⊢
    cases hs : (yrl (aT a) n 62 0 0 Y0).1 with
    | inl b =>
      rw [hs] at hv r4
      cases hv
      have rd := RS_l r2 hs
      refine q_u1 (by decide) (c_isSound l S2 rd) ?_
      refine ⟨fun _ => ?_, fun z => absurd z (by decide)⟩
      have hYe := r4 rfl
      subst hYe
      rw [e2.2.2]
      have hC2 := CL_rd (T := aT a) (hd := 0) (fp := none) hC (f12.mn (fun f i z => by omega)) (RS.tp r2) (by rw [RD_7 rd]; rfl)
      generalize hS3 : q_wM (q_wM S2 0 0 2 (q_M S 0 0 1)) 0 0 1 (q_M S 0 0 2) = S3
      have hM3 : ∀ j, q_M S3 0 0 j = if j = 1 then q_M S 0 0 2 else if j = 2 then q_M S 0 0 1 else q_M S 0 0 j := fun j => by
        rw [← hS3, q_M_wM, q_M_wM, e2.2.2]
        simp
      have f3 : fr (fun f i => f = 0) S2 S3 := by rw [← hS3]; exact fr.wM (F := fun f _ => f = 0) (fr.wM fr.rf rfl) rfl
      have eI3 : q_I S3 = q_I S2 := by rw [← hS3]; rfl
      rw [hM3 3]
      refine ⟨_, _, (by decide : 2 < 50), c_lclear l S3 (i := q_M S 0 0 3), fun S4 h4 => ?_⟩
      obtain ⟨g1, f4⟩ := h4
      have e4 := f4 0 0 (by omega)
      rw [show q_M S4 0 0 5 = q_M S 0 0 5 by rw [e4.2.2, hM3 5]; rfl]
      refine ⟨_, _, (by decide : 0 < 50), c_sclear l S4 (i := q_M S 0 0 5), fun S5 h5 => ?_⟩
      obtain ⟨g2, f5⟩ := h5
      have e5 := f5 0 0 (by omega)
      have f35 : fr (fun f i => (f = 12 ∨ f = 13) ∧ i = q_M S 0 0 3 ∨ f = 16 ∧ i = q_M S 0 0 5) S3 S5 := (f4.mn (fun f i z => Or.inl ⟨z.2, z.1⟩)).tr (f5.mn (fun f i z => Or.inr z))
      generalize hS6 : q_wI (q_wI (q_wI S5 24 0 1 0) 0 0 12 0) 0 0 13 0 = S6
      have f6 : fr (fun f i => f = 0 ∨ (f = 24 ∧ i = 0)) S5 S6 := by rw [← hS6]; exact fr.wI (F := fun f i => f = 0 ∨ (f = 24 ∧ i = 0)) (fr.wI (fr.wI fr.rf (Or.inr ⟨rfl, rfl⟩)) (Or.inl rfl)) (Or.inl rfl)
      have hM6 : ∀ j, q_M S6 0 0 j = if j = 1 then q_M S 0 0 2 else if j = 2 then q_M S 0 0 1 else q_M S 0 0 j := fun j => by
        rw [← hS6]
        show q_M S5 0 0 j = _
        rw [e5.2.2, e4.2.2]
        exact hM3 j
      have f26 : fr (fun f i => f = 0 ∨ (f = 12 ∨ f = 13) ∧ i = q_M S 0 0 3 ∨ f = 16 ∧ i = q_M S 0 0 5 ∨ (f = 24 ∧ i = 0)) S2 S6 := (f3.mn (fun f i z => Or.inl z)).tr ((f35.mn (fun f i z => by omega)).tr (f6.mn (fun f i z => by omega)))
      have hYO : YO S6 (q_M S 0 0 2) (yrl (aT a) n 62 0 0 Y0).2 := r3.fr f26 (fun f _ _ z => by omega)
      rw [hM6 1, if_pos rfl, hYO.1.2.1]
      obtain ⟨k1, k2, k3, k4, k5, k6, k7, k8, k9⟩ := hC2
      refine ⟨rfl, ⟨t, by omega, ?_⟩, (f12.mn (fun f i z => by show f < 40; omega)).tr (f26.mn (fun f i z => by show f < 40; omega))⟩
      refine ⟨?_, ?_, ?_, ⟨?_, by show 0 ≤ 16; omega, fun i hi => ?_⟩, ⟨?_, fun i hi => absurd hi (Nat.not_lt_zero i)⟩, k6.fr f26 (by omega) (by omega), ?_, ⟨?_, ?_, ?_⟩, k9.fr f26 (by omega) (by omega)⟩
      · unfold CL1
        rw [hM6, hM6]
        exact ⟨hi1.2.1, hi1.1, fun z => hne z.symm, hYO⟩
      · unfold CL2
        rw [hM6, hM6]
        have := hC.2.1
        exact ⟨this.1, this.2.1, this.2.2.1, LC.fr (LC.fr g1 f5 (by omega) (by omega)) f6 (by omega) (by omega)⟩
      · unfold CL3
        rw [hM6, hM6]
        have := hC.2.2.1
        exact ⟨this.1, this.2.1, this.2.2.1, g2.fr9 f6 (by omega)⟩
      · rw [← hS6, q_I_wI, if_neg (by omega), q_I_wI, if_neg (by omega), q_I_wI, if_pos ⟨rfl, rfl, rfl⟩]
        rfl
      · have hi : i = 0 := Nat.le_zero.mp hi
        subst hi
        exact (k4.2.2 0 (Nat.zero_le _)).fr f26 (by omega) (by omega)
      · rw [← hS6, q_I_wI, if_neg (by omega), q_I_wI, if_pos ⟨rfl, rfl, rfl⟩]
        rfl
      · show q_I S6 1 0 6 = _
        rw [(f26 1 0 (by omega)).1]
        exact k7
      · rw [← hS6, q_I_wI, if_pos ⟨rfl, rfl, rfl⟩]
        rfl
      · rw [← hS6, q_I_wI, if_neg (by omega), q_I_wI, if_neg (by omega), q_I_wI, if_neg (by omega), e5.1, e4.1, eI3]
        exact k8.2.1
      · rw [← hS6, q_I_wI, if_neg (by omega), q_I_wI, if_neg (by omega), q_I_wI, if_neg (by omega), e5.1, e4.1, eI3]
        exact k8.2.2
    | inr q =>
      rw [hs] at hv
      cases hv
      obtain ⟨b, rd⟩ := RS_r r2 hs
      refine q_u1 (by decide) (c_isSound l S2 rd) ?_
      refine ⟨fun z => absurd rfl z, fun _ => ?_⟩
      rw [RD_5 rd]
      exact ⟨rfl, ⟨t, by omega, CL_rd (T := aT a) (hd := 0) (fp := some q.2) hC (f12.mn (fun f i z => by omega)) (RS.tp r2) (by rw [RD_7 rd]; rfl)⟩, f12.mn (fun f i z => by show f < 40; omega)⟩
  · rw [spI_1 h2]
    refine CA_x (d := 7) (by decide) ?_
    refine q_methC zoX10_yard (Nat.le_of_ble_eq_true rfl) ?_
    intro AT step hX
    refine step 40 [(1, [true, true, true])] 0 _ _ _ ?_
    simp only [q_vcs, q_vcc, q_vl, q_vu, ↓reduceIte, Nat.reduceEqDiff, Bool.false_eq_true, q_isc, q_mk, q_msk, zbX10_yard, q_pad, q_ent, q_get, q_put, q_nl, q_w, List.cons_append, List.nil_append, q_aks, q_als, Nat.reduceAdd, Nat.reduceLeDiff, Nat.zero_le, true_and, and_true, Option.some.injEq, Sum.inl.injEq, Sum.inr.injEq, true_or, or_true, and_self, q_sw]
    rw [hT.2.1]
    refine q_u1 (by decide) (c_isWithin l S x 0 (nI (aHd a))) ?_
    rw [decide_eq_false h2]
    exact hX 1 _ _ _ ⟨_, _, _, _, _, _, _, _, _, _, _, _, _, zbX10_yard.2.1, rfl, Nat.le_of_ble_eq_true rfl, Nat.le_of_ble_eq_true rfl, by decide, c_needX l hl hC nmI 1 rfl⟩
theorem a_work (l : Launch) (hl : l.stackTraces = false) {S : qSt} {t : Nat} {a : AS} {B : Nat} (hC : CL S t a) (hO : OKA a B) (ht : t + 25 < 65536) (x : Int32) : CA l k_X10_work [.inr (.inr (0, 0)), .inl x] S t nmI (sp_work a x) := by
  have hT := hC.2.2.2.2.2.1
  have hd6 := hO.2.2.2.2.2.2.1
  unfold sp_work
  by_cases h2 : 0 ≤ x ∧ x ≤ nI (min (aHd a) 150)
  · rw [spI_2 h2]
    obtain ⟨n, hn, rfl⟩ := i_rng (m := (min (aHd a) 150)) (by omega) h2.1 h2.2
    rw [i_cl (by omega)]
    obtain ⟨f, hwp⟩ := wpA_ex (aT a) n (aY a) (aC a)
    have h16 := hO.2.2.1
    have hH := hC.2.2.2.1
    have gv := hO.v
    refine ⟨50, by decide, ?_⟩
    show match (sp_work1 a n).1 with
      | .inl c => q_Thr q_mt l 50 k_X10_work 1 [.inr (.inr (0, 0)), .inl (nI n)] S (fun E S' => E = nmI c ∧ CL S' t (sp_work1 a n).2 ∧ fr Fcl S S')
      | .inr v => q_Met q_mt l 50 k_X10_work 1 [.inr (.inr (0, 0)), .inl (nI n)] S (fun x S' => x = some (.inl v) ∧ (∃ t', t' ≤ t + 25 ∧ CL S' t' (sp_work1 a n).2) ∧ fr Fcl S S')
    have key : ∃ v, (sp_work1 a n).1 = .inr v := by
      unfold sp_work1
      split
      · exact ⟨_, rfl⟩
      · split <;> exact ⟨_, rfl⟩
    obtain ⟨v, hv⟩ := key
    rw [hv]
    refine q_meth zoX10_work q_fos (Nat.le_of_ble_eq_true rfl) ?_
    intro AT step
    refine step 40 [] 0 _ _ _ ?_
    simp only [q_vcs, q_vcc, q_vl, q_vu, ↓reduceIte, Nat.reduceEqDiff, Bool.false_eq_true, q_isc, q_mk, q_msk, zbX10_work, q_pad, q_ent, q_get, q_put, q_nl, q_w, List.cons_append, List.nil_append, q_aks, q_als, Nat.reduceAdd, Nat.reduceLeDiff, Nat.zero_le, true_and, and_true, Option.some.injEq, Sum.inl.injEq, Sum.inr.injEq, true_or, or_true, and_self, q_sw]
    rw [hT.2.1, show (150 : Int32) = nI 150 from rfl, i_min (a := 150) (b := aHd a) (by decide) (by omega), Nat.min_comm]
    refine ⟨by decide, ?_⟩
    refine q_u1 (by decide) (c_isWithin l S (nI n) 0 (nI (min (aHd a) 150))) ?_
    rw [decide_eq_true h2]
    refine q_u0 (by decide) (c_need1 l S) ?_
    rw [hH.1, show (16 : Int32) = nI 16 from rfl, nI_ltI (by omega) (by decide)]
    refine ⟨fun h => ?_, fun h => ?_⟩
    · unfold sp_work1 at hv ⊢
      rw [if_neg (by omega)] at hv ⊢
      refine ⟨_, _, (by decide : 1 < 50), c_open l S hT (by omega), fun S1 h1 => ?_⟩
      obtain ⟨r1, f1⟩ := h1
      have e1 := f1 0 0 (by decide)
      rw [e1.2.2]
      refine ⟨_, _, (by decide : 30 < 50), c_wread l S1 hO.1 (by omega) r1 (hC.1.2.2.2.1.fr f1 (fun f _ _ q => by have : f = 1 := q; omega)) hwp, fun S2 h2 => ?_⟩
      obtain ⟨r2, ⟨z, r3, r4⟩, f2⟩ := h2
      have f12 : fr (fun f i => f = 1 ∨ (18 ≤ f ∧ f ≤ 22)) S S2 := (f1.mn (fun f i z => Or.inl z)).tr f2
      have e2 := f12 0 0 (by omega)
      cases hs : (wpA (aT a) n (aY a) (aC a)).1 with
      | inl b =>
        rw [hs] at hv
        cases hv
        have rd := RS_l r2 hs
        have hci := r4 b hs
        refine q_u1 (by decide) (c_isSound l S2 rd) ?_
        refine ⟨fun _ => ?_, fun z => absurd z (by decide)⟩
        have hC2 := CL_rd (T := aT a) (hd := 0) (fp := none) hC (f12.mn (fun f i z => by omega)) (RS.tp r2) (by rw [RD_7 rd]; rfl)
        have hH2 : HR S2 0 (aW a) (aH a) := hC2.2.2.2.1
        refine ⟨_, _, (by decide : 2 < 50), c_begin l S2 hH2 h, fun S3 h3 => ?_⟩
        obtain ⟨g1, f3⟩ := h3
        have e3 := f3 0 0 (fun z => by rcases z with z | z <;> omega)
        have e30 : q_M S3 0 0 = q_M S 0 0 := by rw [e3.2.2, e2.2.2]
        refine q_u29 (by decide) (c_latest l S3 g1) ?_
        have hpr : PR S3 (17 * 0 + (aW a + 1)) (if aW a + 1 ≤ aW a then aH a (aW a + 1) else aH a (aW a)) := g1.2.2 (aW a + 1) (Nat.le_refl _)
        rw [if_neg (show ¬ aW a + 1 ≤ aW a by omega)] at hpr
        have hYO3 : YO S3 (q_M S 0 0 1) (aY a) := by
          have := hC2.1.2.2.2
          rw [e2.2.2] at this
          exact this.fr f3 (fun f _ _ z => by rcases z with z | z <;> omega)
        have hLC3 : LC S3 (q_M S 0 0 3) ((aC a).map tkI) := by
          have := hC2.2.1.2.2.2
          rw [e2.2.2] at this
          exact LC.fr this f3 (fun z => by rcases z with z | z <;> omega) (fun z => by rcases z with z | z <;> omega)
        have hWC3 : WC S3 z := ⟨by rw [(f3 18 0 (fun z => by rcases z with z | z <;> omega)).1]; exact r3.1, r3.2⟩
        have hCI3 : CI (aY a) (aC a) (wE S3) 0 z (wpA (aT a) n (aY a) (aC a)).2 := hci.cong (fun q i hq _ _ => by
          unfold wE
          rw [(f3 (19 + q) 0 (fun z => by rcases z with z | z <;> omega)).1])
        rw [e30]
        refine ⟨_, _, (by decide : 6 < 50), c_run l S3 hO.1 hYO3 hpr gv.1 hO.2.1 hLC3 hWC3 hCI3, fun S4 h4 => ?_⟩
        obtain ⟨w1, w2, ⟨w3, w4, w5⟩, f4⟩ := h4
        have e4 := f4 0 0 (fun z => by rcases z with z | z | z | z <;> omega)
        rw [w4]
        generalize hX : (wpA (aT a) n (aY a) (aC a)).2 (0, 0, 0, aV a) = X at w1 w2 w3 w4 ⊢
        generalize hS5 : q_wI S4 0 0 13 (nI X.2.2.1) = S5
        have f5 : fr (fun f i => f = 0) S4 S5 := by rw [← hS5]; exact fr.wI (F := fun f _ => f = 0) fr.rf rfl
        have f25 : fr (fun f i => f = 0 ∨ (f = 24 ∧ i = 0) ∨ ((f = 26 ∨ f = 27) ∧ i / 17 = 0) ∨ f = 14 ∨ f = 15 ∨ f = 18 ∨ f = 23) S2 S5 := (f3.mn (fun f i z => by rcases z with z | z <;> omega)).tr ((f4.mn (fun f i z => by rcases z with z | z | z | z <;> omega)).tr (f5.mn (fun f i z => Or.inl z)))
        have eI : ∀ j, j ≠ 13 → q_I S5 0 0 j = q_I S2 0 0 j := fun j hj => by
          rw [← hS5, q_I_wI, if_neg (fun z => hj z.2.2), e4.1, e3.1]
        have eM : q_M S5 0 0 = q_M S2 0 0 := by rw [← hS5]; show q_M S4 0 0 = _; rw [e4.2.2, e3.2.2]
        have w3' : q_I S5 18 0 6 = nI X.2.1 := by rw [(f5 18 0 (by omega)).1]; exact w3
        rw [w3']
        obtain ⟨k1, k2, k3, k4, k5, k6, k7, k8, k9⟩ := hC2
        refine ⟨rfl, ⟨t, by omega, ?_⟩, (f12.mn (fun f i z => by show f < 40; omega)).tr (f25.mn (fun f i z => by show f < 40; omega))⟩
        refine ⟨?_, ?_, ?_, ⟨?_, by show aW a + 1 ≤ 16; omega, fun i hi => ?_⟩, ⟨?_, fun i hi => ?_⟩, k6.fr f25 (by omega) (by omega), ?_, ⟨?_, ?_, ?_⟩, k9.fr f25 (by omega) (by omega)⟩
        · unfold CL1 at k1 ⊢
          rw [eM]
          exact ⟨k1.1, k1.2.1, k1.2.2.1, k1.2.2.2.fr f25 (fun f _ _ q => by omega)⟩
        · unfold CL2 at k2 ⊢
          rw [eM]
          exact ⟨k2.1, k2.2.1, k2.2.2.1, LC.fr k2.2.2.2 f25 (by omega) (by omega)⟩
        · unfold CL3 at k3 ⊢
          rw [eM]
          exact ⟨k3.1, k3.2.1, k3.2.2.1, k3.2.2.2.fr9 f25 (by omega)⟩
        · rw [(f5 24 0 (by omega)).1, (f4 24 0 (fun z => by rcases z with z | z | z | z <;> omega)).1]
          exact g1.1
        · show PR S5 (17 * 0 + i) (if i = aW a + 1 then X.2.2.2 else aH a i)
          have hi : i ≤ aW a + 1 := hi
          by_cases e : i = aW a + 1
          · rw [if_pos e, e]
            exact w2.fr f5 (by omega) (by omega)
          · rw [if_neg e]
            have : PR S3 (17 * 0 + i) (if i ≤ aW a then aH a i else aH a (aW a)) := g1.2.2 i (by omega)
            rw [if_pos (show i ≤ aW a by omega)] at this
            exact (this.fr f4 (fun z => by rcases z with z | z | z | z <;> omega) (fun z => by rcases z with z | z | z | z <;> omega)).fr f5 (by omega) (by omega)
        · rw [eI 12 (by decide)]; exact k5.1
        · exact (k5.2 i hi).fr f25 (by omega) (fun j hj => ⟨by omega, by omega⟩)
        · show q_I S5 1 0 6 = _
          rw [(f25 1 0 (by omega)).1]
          exact k7
        · rw [← hS5, q_I_wI, if_pos ⟨rfl, rfl, rfl⟩]; rfl
        · rw [eI 14 (by decide)]; exact k8.2.1
        · rw [eI 15 (by decide)]; exact k8.2.2
      | inr q =>
        rw [hs] at hv
        cases hv
        obtain ⟨b, rd⟩ := RS_r r2 hs
        refine q_u1 (by decide) (c_isSound l S2 rd) ?_
        refine ⟨fun z => absurd rfl z, fun _ => ?_⟩
        rw [RD_5 rd]
        exact ⟨rfl, ⟨t, by omega, CL_rd (T := aT a) (hd := 0) (fp := some q.2) hC (f12.mn (fun f i z => by omega)) (RS.tp r2) (by rw [RD_7 rd]; rfl)⟩, f12.mn (fun f i z => by show f < 40; omega)⟩
    · have e16 : aW a = 16 := by omega
      unfold sp_work1 at hv ⊢
      rw [if_pos e16] at hv ⊢
      cases hv
      refine ⟨_, _, (by decide : 1 < 50), c_open l S hT (n := 0) (by omega), fun S1 h1 => ?_⟩
      obtain ⟨r1, f1⟩ := h1
      exact ⟨rfl, ⟨t, by omega, CL_rd (T := aT a) (hd := 0) (fp := none) hC (f1.mn (fun f i z => Or.inl z)) (RS.tp (s := .inl 0) r1) (by rw [RD_7 r1]; rfl)⟩, f1.mn (fun f i z => by show f < 40; have : f = 1 := z; omega)⟩
  · rw [spI_1 h2]
    refine CA_x (d := 7) (by decide) ?_
    refine q_methC zoX10_work (Nat.le_of_ble_eq_true rfl) ?_
    intro AT step hX
    refine step 40 [(1, [true, true])] 0 _ _ _ ?_
    simp only [q_vcs, q_vcc, q_vl, q_vu, ↓reduceIte, Nat.reduceEqDiff, Bool.false_eq_true, q_isc, q_mk, q_msk, zbX10_work, q_pad, q_ent, q_get, q_put, q_nl, q_w, List.cons_append, List.nil_append, q_aks, q_als, Nat.reduceAdd, Nat.reduceLeDiff, Nat.zero_le, true_and, and_true, Option.some.injEq, Sum.inl.injEq, Sum.inr.injEq, true_or, or_true, and_self, q_sw]
    rw [hT.2.1, show (150 : Int32) = nI 150 from rfl, i_min (a := 150) (b := aHd a) (by decide) (by omega), Nat.min_comm]
    refine ⟨by decide, ?_⟩
    refine q_u1 (by decide) (c_isWithin l S x 0 (nI (min (aHd a) 150))) ?_
    rw [decide_eq_false h2]
    exact hX 1 _ _ _ ⟨_, _, _, _, _, _, _, _, _, _, _, _, _, zbX10_work.2.1, rfl, Nat.le_of_ble_eq_true rfl, Nat.le_of_ble_eq_true rfl, by decide, c_needX l hl hC nmI 1 rfl⟩
