/-! The class's questions: the search, spots -/
noncomputable def fewA (Y : YD) (w : Nat) (g : Option Nat) (P : Nat → List Nat) : Option Nat × Nat := Classical.epsilon (fun q : Option Nat × Nat => Ans Y w g P q.1 q.2)
theorem few_u {Y : YD} {w : Nat} {g : Option Nat} {P : Nat → List Nat} {r : Option Nat} {f : Nat} (h : Ans Y w g P r f) : r = (fewA Y w g P).1 ∧ ∀ F, r = some (F + 1) → f = (fewA Y w g P).2 :=
  An_u h (Classical.epsilon_spec (p := fun q : Option Nat × Nat => Ans Y w g P q.1 q.2) ⟨(r, f), h⟩)
def frV (q : Option Nat × Nat) : Int32 := match q.1 with
  | some (_ + 1) => nI q.2
  | _ => -1
def mrV (q : Option Nat × Nat) : Int32 := match q.1 with
  | some (_ + 1) => nI q.2
  | some 0 => -2
  | none => -1
theorem fitW_of {Y : YD} {w : Nat} {P : Nat → List Nat} (h : fits9 Y P) : fitW Y w P := fun k hk => Nat.le_trans (h k hk) (Nat.le_add_right _ _)
/-- what the class's search says, in both sides' words -/
theorem c_seekA (l : Launch) {S : qSt} {t : Nat} {a : AS} {B w : Nat} {g : Option Nat} {P : Nat → List Nat} (hC : CL S t a) (hO : OKA a B) (hw4 : w ≤ 4) (hP : p_ok (aY a) P) (hw : fitW (aY a) w P) (ht : t + 5 < 65536) (hg : ∀ c, g = some c → c < 6) : q_Met q_mt l 7 k_X5_seek 1 [.inr (.inr (29, 0)), .inr (.inr (3, q_M S 0 0 1)), .inl (nI w), .inr (.inl (lN (es P))), .inl (oI g)] S (fun v S' => v = some (.inl (oI (fewA (aY a) w g P).1)) ∧ q_I S' 29 0 11 = frV (fewA (aY a) w g P) ∧ (∀ F, (fewA (aY a) w g P).1 = some F → F < 2 ^ 21) ∧ (∃ t', t' ≤ t + 5 ∧ CL S' t' a) ∧ fr Fsr S S') := by
  refine (c_seek l S hO.1 hw4 hP hw hC.1.2.2.2 hC.2.2.2.2.2.2.2.2 ht hg).post (fun v S' h => ?_)
  obtain ⟨r, f, h1, h2, h3, h4, ⟨t', h5, h6⟩, h7⟩ := h
  obtain ⟨e1, e2⟩ := few_u h2
  refine ⟨by rw [← e1]; exact h1, ?_, fun F hF => ?_, ⟨t', h5, CL_kp hC (h7.mn (fun f i q => by rcases q with q | q | q | q <;> omega)) h6⟩, h7⟩
  · unfold frV
    rw [← e1]
    cases hr : r with
    | none => exact h4 (fun F => by rw [hr]; simp)
    | some F =>
      cases F with
      | zero => exact h4 (fun F => by rw [hr]; simp)
      | succ F =>
        dsimp only
        rw [← e2 F hr]
        exact (h3 F hr).2
  · rw [← e1] at hF
    cases F with
    | zero => decide
    | succ F =>
      have := (h3 F hF).1
      omega
def frA (Y : YD) (P : Nat → List Nat) (q : Option Nat × Nat) (c n : Nat) : Int32 := match lnof P c with
  | none => -1
  | some _ => if n = 0 then oI q.1 else frV q
noncomputable def sp_frees (a : AS) (x y : Int32) : SPR := spK a x (0 ≤ y ∧ y ≤ 1) (.inr (frA (aY a) (aV a).1 (fewA (aY a) 0 (some x.toNatClampNeg) (aV a).1) x.toNatClampNeg y.toNatClampNeg), a)
noncomputable def sp_morn (a : AS) (y : Int32) : SPR := spI a (0 ≤ y ∧ y ≤ 1) (.inr (if y.toNatClampNeg = 0 then oI (fewA (aY a) 0 none (aV a).1).1 else mrV (fewA (aY a) 0 none (aV a).1)), a)
noncomputable def cnA (a : AS) (c : Nat) : Int32 := match lnof (aV a).1 c with
  | none => -2
  | some k => match (fewA (aY a) 0 none (aV a).1).1 with
    | none => -1
    | some F => nI F - oI (fewA (aY a) 0 none (sp (aV a).1 k (((aV a).1 k).erase c))).1
noncomputable def sp_corn (a : AS) (x : Int32) : SPR := spK a x True (.inr (cnA a x.toNatClampNeg), a)
def nxA (Y : YD) (P : Nat → List Nat) (n : Nat) : Int32 := match nxt Y P with
  | none => -1
  | some c => if n = 0 then nI c else nI (pcn (bo (ahd P c)))
noncomputable def sp_next (a : AS) (y : Int32) : SPR := spI a (0 ≤ y ∧ y ≤ 1) (.inr (nxA (aY a) (aV a).1 y.toNatClampNeg), a)
def lkV (a : AS) : Nat → Int32
  | 0 => nI (fa_cnt (isR (aY a) (aV a).1 (aLn a) (aOi a)) (2 ^ aY a 1 0))
  | 1 => oI (fst0 (isR (aY a) (aV a).1 (aLn a) (aOi a)) (2 ^ aY a 1 0))
  | _ => nI ((cmn (isR (aY a) (aV a).1 (aLn a) (aOi a)) (2 ^ aY a 1 0)).getD 0)
noncomputable def sp_leaks (a : AS) (y : Int32) : SPR := spI a (0 ≤ y ∧ y ≤ 2) (.inr (lkV a y.toNatClampNeg), a)
def loV (a : AS) (n : Nat) : Int32 := match (bpn (aY a) (aV a).1 (aLn a) (aOi a) 12).1 with
  | none => -1
  | some p => if n = 0 then nI (p / 4 * 10 + p % 4) else nI (wrst (aY a) (aV a).1 (aLn a) (aOi a) p)
noncomputable def sp_look (a : AS) (y : Int32) : SPR := spI a (0 ≤ y ∧ y ≤ 1) (.inr (loV a y.toNatClampNeg), a)
theorem CL_sl {S S' : qSt} {t : Nat} {a : AS} {Y : YD} {P : Nat → List Nat} (h : CL S t a) (hL : SL S' (q_M S 0 0 5) Y P (aLn a) (aOi a)) (hf : fr (Fs (q_M S 0 0 5)) S S') : CL S' t a := by
  obtain ⟨h1, h2, h3, h4, h5, h6, h7, h8, h9⟩ := h
  have e0 := hf 0 0 (by omega)
  refine ⟨?_, ?_, ?_, h4.fr hf (by omega) (fun i _ => ⟨by omega, by omega⟩), ⟨?_, fun i hi => (h5.2 i hi).fr hf (by omega) (fun i _ => ⟨by omega, by omega⟩)⟩, h6.fr hf (by omega) (by omega), ?_, ?_, h9.fr hf (by omega) (by omega)⟩
  · unfold CL1
    rw [e0.2.2]
    exact ⟨h1.1, h1.2.1, h1.2.2.1, h1.2.2.2.fr hf (fun f _ _ q => by omega)⟩
  · unfold CL2
    rw [e0.2.2]
    exact ⟨h2.1, h2.2.1, h2.2.2.1, LC.fr h2.2.2.2 hf (by omega) (by omega)⟩
  · unfold CL3
    rw [e0.2.2]
    exact ⟨h3.1, h3.2.1, h3.2.2.1, hL.1⟩
  · rw [e0.1]; exact h5.1
  · rw [(hf 1 0 (by omega)).1]; exact h7
  · unfold CL8
    rw [e0.1]
    exact h8
theorem erase_ok {Y : YD} {P : Nat → List Nat} (hP : p_ok Y P) {k c : Nat} (hk : lnof P c = some k) : ∃ A t, P k = A ++ c :: t ∧ (P k).erase c = A ++ t ∧ p_ok Y (sp P k (A ++ t)) ∧ ∀ w, fitW Y w P → fitW Y w (sp P k (A ++ t)) := by
  obtain ⟨hk3, hm⟩ := lnof_lt hk
  obtain ⟨t, ht⟩ := ahd_split hk
  have hd := p_nd hP hk3
  have hn : c ∉ ahd P c := by
    rw [ht] at hd
    have := (List.nodup_append.mp hd).2.2
    exact fun q => this c q c List.mem_cons_self rfl
  have hsub : List.Sublist (ahd P c ++ t) (P k) := by
    rw [ht]
    exact List.Sublist.append_left (List.sublist_cons_self c t) _
  refine ⟨ahd P c, t, ht, by rw [ht]; exact erase_split hn, ?_, fun w hw j hj => ?_⟩
  · have hsl : ∀ j, List.Sublist (sp P k (ahd P c ++ t) j) (P j) := fun j => by
      by_cases e : j = k
      · rw [e, sp_eq]; exact hsub
      · rw [sp_ne e]; exact List.Sublist.refl _
    refine ⟨?_, fun j hj => ?_, fun j x hx => hP.2.2.1 j x ((hsl j).subset hx), ?_⟩
    · have r : ∀ j, j < 3 → rw_ok (sp P k (ahd P c ++ t) j) := fun j hj => ⟨Nat.le_trans (hsl j).length_le (st_row hP.1 hj).1, fun x hx => (st_row hP.1 hj).2 x ((hsl j).subset hx)⟩
      exact ⟨r 0 (by decide), r 1 (by decide), r 2 (by decide)⟩
    · have := hsl j
      rw [hP.2.1 j hj] at this
      exact List.sublist_nil.mp this
    · exact List.Sublist.nodup (List.Sublist.append (hsl 0) (List.Sublist.append (hsl 1) (hsl 2))) hP.2.2.2
  · by_cases e : j = k
    · have := hw j hj
      rw [e, sp_eq]
      rw [e, ht, usd_mem] at this
      rw [usd_app]
      omega
    · rw [sp_ne e]; exact hw j hj
theorem a_frees (l : Launch) (hl : l.stackTraces = false) {S : qSt} {t : Nat} {a : AS} {B : Nat} (hC : CL S t a) (hO : OKA a B) (ht : t + 25 < 65536) (x y : Int32) : CA l k_X10_frees [.inr (.inr (0, 0)), .inl x, .inl y] S t nmC (sp_frees a x y) := by
  unfold sp_frees
  by_cases h1 : isCr a x
  · by_cases h2 : 0 ≤ y ∧ y ≤ 1
    · rw [spK_3 h1 h2]
      obtain ⟨k, hk, rfl⟩ := isCr_ex hO h1
      obtain ⟨n, hn, rfl⟩ := i_rng (m := 1) (by decide) h2.1 h2.2
      have hH := hC.2.2.2.1
      have hV := hH.2.2 (aW a) (Nat.le_refl _)
      have hY := hC.1.2.2.2
      have gv := hO.v
      have h3 := hO.1.1
      have h6 := hO.1.2.1
      rw [i_cl (by omega), i_cl (by omega)]
      refine CA_r (d := 9) (by decide) ?_
      refine q_meth zoX10_frees q_fos (Nat.le_of_ble_eq_true rfl) ?_
      intro AT step
      refine step 40 [] 0 _ _ _ ?_
      simp only [q_vcs, q_vcc, q_vl, q_vu, ↓reduceIte, Nat.reduceEqDiff, Bool.false_eq_true, q_isc, q_mk, q_msk, zbX10_frees, q_pad, q_ent, q_get, q_put, q_nl, q_w, List.cons_append, List.nil_append, q_aks, q_als, Nat.reduceAdd, Nat.reduceLeDiff, Nat.zero_le, true_and, and_true, Option.some.injEq, Sum.inl.injEq, Sum.inr.injEq, true_or, or_true, and_self, q_sw]
      refine q_u0 (by decide) (c_needCarO l hC h1) ?_
      refine q_u1 (by decide) (c_isWithin l S (nI n) 0 1) ?_
      rw [decide_eq_true h2]
      refine q_u0 (by decide) (c_need1 l S) ?_
      refine q_u29 (by decide) (c_latest l S hH) ?_
      rw [hV.1]
      refine q_u1 (by decide) (c_laneOf l S gv.1.1 (c := k) (by omega)) ?_
      unfold frA
      cases hl9 : lnof (aV a).1 k with
      | none => exact ⟨fun h => absurd rfl h, fun _ => ⟨rfl, ⟨t, by omega, hC⟩, fr.rf⟩⟩
      | some j =>
        have hj := (lnof_lt hl9).1
        refine ⟨fun _ => ?_, fun h => absurd h (i_ne1 (n := j) (by omega))⟩
        refine ⟨_, _, (by decide : 7 < 9), c_seekA l hC hO (w := 0) (g := some k) (by decide) gv.1 (fitW_of gv.2.1) (by omega) (fun c hc => by cases hc; omega), fun v S' h => ?_⟩
        obtain ⟨g1, g2, _, ⟨t', g4, g5⟩, g6⟩ := h
        cases g1
        rw [g2, show (0 : Int32) = nI 0 from rfl, nI_eq (by omega) (by decide)]
        have fin : (∃ t', t' ≤ t + 25 ∧ CL S' t' a) ∧ fr Fcl S S' := ⟨⟨t', by omega, g5⟩, g6.mn (fun f i q => by show f < 40; rcases q with q | q | q | q <;> omega)⟩
        refine ⟨fun h => ⟨?_, fin⟩, fun h => ⟨?_, fin⟩⟩
        · rw [if_neg h]
        · rw [if_pos h]
    · rw [spK_2 h1 h2]
      refine CA_x (d := 7) (by decide) ?_
      refine q_methC zoX10_frees (Nat.le_of_ble_eq_true rfl) ?_
      intro AT step hX
      refine step 40 [(2, [true, true, true, true, true, true])] 0 _ _ _ ?_
      simp only [q_vcs, q_vcc, q_vl, q_vu, ↓reduceIte, Nat.reduceEqDiff, Bool.false_eq_true, q_isc, q_mk, q_msk, zbX10_frees, q_pad, q_ent, q_get, q_put, q_nl, q_w, List.cons_append, List.nil_append, q_aks, q_als, Nat.reduceAdd, Nat.reduceLeDiff, Nat.zero_le, true_and, and_true, Option.some.injEq, Sum.inl.injEq, Sum.inr.injEq, true_or, or_true, and_self, q_sw]
      refine q_u0 (by decide) (c_needCarO l hC h1) ?_
      refine q_u1 (by decide) (c_isWithin l S y 0 1) ?_
      rw [decide_eq_false h2]
      exact hX 2 _ _ _ ⟨_, _, _, _, _, _, _, _, _, _, _, _, _, zbX10_frees.2.2.1, rfl, Nat.le_of_ble_eq_true rfl, Nat.le_of_ble_eq_true rfl, by decide, c_needX l hl hC nmC 2 rfl⟩
  · rw [spK_1 h1]
    refine CA_x (d := 7) (by decide) ?_
    refine q_methC zoX10_frees (Nat.le_of_ble_eq_true rfl) ?_
    intro AT step hX
    refine step 40 [(1, [true, true, true, true, true, true])] 0 _ _ _ ?_
    simp only [q_vcs, q_vcc, q_vl, q_vu, ↓reduceIte, Nat.reduceEqDiff, Bool.false_eq_true, q_isc, q_mk, q_msk, zbX10_frees, q_pad, q_ent, q_get, q_put, q_nl, q_w, List.cons_append, List.nil_append, q_aks, q_als, Nat.reduceAdd, Nat.reduceLeDiff, Nat.zero_le, true_and, and_true, Option.some.injEq, Sum.inl.injEq, Sum.inr.injEq, true_or, or_true, and_self, q_sw]
    exact hX 1 _ _ _ ⟨_, _, _, _, _, _, _, _, _, _, _, _, _, zbX10_frees.2.1, rfl, Nat.le_of_ble_eq_true rfl, Nat.le_of_ble_eq_true rfl, by decide, c_needCarX l hl hC h1⟩
theorem a_morning (l : Launch) (hl : l.stackTraces = false) {S : qSt} {t : Nat} {a : AS} {B : Nat} (hC : CL S t a) (hO : OKA a B) (ht : t + 25 < 65536) (y : Int32) : CA l k_X10_morning [.inr (.inr (0, 0)), .inl y] S t nmI (sp_morn a y) := by
  unfold sp_morn
  by_cases h2 : 0 ≤ y ∧ y ≤ 1
  · rw [spI_2 h2]
    obtain ⟨n, hn, rfl⟩ := i_rng (m := 1) (by decide) h2.1 h2.2
    have hH := hC.2.2.2.1
    have hV := hH.2.2 (aW a) (Nat.le_refl _)
    have hY := hC.1.2.2.2
    have gv := hO.v
    have h3 := hO.1.1
    have h6 := hO.1.2.1
    rw [i_cl (by omega)]
    refine CA_r (d := 9) (by decide) ?_
    refine q_meth zoX10_morning q_fos (Nat.le_of_ble_eq_true rfl) ?_
    intro AT step
    refine step 40 [] 0 _ _ _ ?_
    simp only [q_vcs, q_vcc, q_vl, q_vu, ↓reduceIte, Nat.reduceEqDiff, Bool.false_eq_true, q_isc, q_mk, q_msk, zbX10_morning, q_pad, q_ent, q_get, q_put, q_nl, q_w, List.cons_append, List.nil_append, q_aks, q_als, Nat.reduceAdd, Nat.reduceLeDiff, Nat.zero_le, true_and, and_true, Option.some.injEq, Sum.inl.injEq, Sum.inr.injEq, true_or, or_true, and_self, q_sw]
    refine q_u1 (by decide) (c_isWithin l S (nI n) 0 1) ?_
    rw [decide_eq_true h2]
    refine q_u0 (by decide) (c_need1 l S) ?_
    refine q_u29 (by decide) (c_latest l S hH) ?_
    rw [hV.1]
    refine ⟨_, _, (by decide : 7 < 9), c_seekA l hC hO (w := 0) (g := none) (by decide) gv.1 (fitW_of gv.2.1) (by omega) (fun c hc => by cases hc), fun v S' h => ?_⟩
    obtain ⟨g1, g2, g3, ⟨t', g4, g5⟩, g6⟩ := h
    cases g1
    have fin : (∃ t', t' ≤ t + 25 ∧ CL S' t' a) ∧ fr Fcl S S' := ⟨⟨t', by omega, g5⟩, g6.mn (fun f i q => by show f < 40; rcases q with q | q | q | q <;> omega)⟩
    rw [g2, show (0 : Int32) = nI 0 from rfl, nI_eq (by omega) (by decide)]
    refine ⟨fun h => ?_, fun h => ⟨by rw [if_pos h], fin⟩⟩
    rw [if_neg h]
    unfold mrV frV
    cases hq : (fewA (aY a) 0 none (aV a).1).1 with
    | none => exact ⟨fun _ => ⟨rfl, fin⟩, fun h => absurd h (by decide)⟩
    | some F =>
      have hF := g3 F hq
      rw [show oI (some F) = nI F from rfl, nI_eq (by omega) (by decide)]
      cases F with
      | zero => exact ⟨fun h => absurd rfl h, fun _ => ⟨rfl, fin⟩⟩
      | succ F => exact ⟨fun _ => ⟨rfl, fin⟩, fun h => absurd h (by omega)⟩
  · rw [spI_1 h2]
    refine CA_x (d := 7) (by decide) ?_
    refine q_methC zoX10_morning (Nat.le_of_ble_eq_true rfl) ?_
    intro AT step hX
    refine step 40 [(1, [true, true, true])] 0 _ _ _ ?_
    simp only [q_vcs, q_vcc, q_vl, q_vu, ↓reduceIte, Nat.reduceEqDiff, Bool.false_eq_true, q_isc, q_mk, q_msk, zbX10_morning, q_pad, q_ent, q_get, q_put, q_nl, q_w, List.cons_append, List.nil_append, q_aks, q_als, Nat.reduceAdd, Nat.reduceLeDiff, Nat.zero_le, true_and, and_true, Option.some.injEq, Sum.inl.injEq, Sum.inr.injEq, true_or, or_true, and_self, q_sw]
    refine q_u1 (by decide) (c_isWithin l S y 0 1) ?_
    rw [decide_eq_false h2]
    exact hX 1 _ _ _ ⟨_, _, _, _, _, _, _, _, _, _, _, _, _, zbX10_morning.2.1, rfl, Nat.le_of_ble_eq_true rfl, Nat.le_of_ble_eq_true rfl, by decide, c_needX l hl hC nmI 1 rfl⟩
theorem a_next (l : Launch) (hl : l.stackTraces = false) {S : qSt} {t : Nat} {a : AS} {B : Nat} (hC : CL S t a) (hO : OKA a B) (ht : t + 25 < 65536) (y : Int32) : CA l k_X10_next [.inr (.inr (0, 0)), .inl y] S t nmI (sp_next a y) := by
  unfold sp_next
  by_cases h2 : 0 ≤ y ∧ y ≤ 1
  · rw [spI_2 h2]
    obtain ⟨n, hn, rfl⟩ := i_rng (m := 1) (by decide) h2.1 h2.2
    have hH := hC.2.2.2.1
    have hV := hH.2.2 (aW a) (Nat.le_refl _)
    have hY := hC.1.2.2.2
    have gv := hO.v
    have h3 := hO.1.1
    have h6 := hO.1.2.1
    rw [i_cl (by omega)]
    refine CA_s (d := 9) (by decide) hC ?_
    refine q_meth zoX10_next q_fos (Nat.le_of_ble_eq_true rfl) ?_
    intro AT step
    refine step 40 [] 0 _ _ _ ?_
    simp only [q_vcs, q_vcc, q_vl, q_vu, ↓reduceIte, Nat.reduceEqDiff, Bool.false_eq_true, q_isc, q_mk, q_msk, zbX10_next, q_pad, q_ent, q_get, q_put, q_nl, q_w, List.cons_append, List.nil_append, q_aks, q_als, Nat.reduceAdd, Nat.reduceLeDiff, Nat.zero_le, true_and, and_true, Option.some.injEq, Sum.inl.injEq, Sum.inr.injEq, true_or, or_true, and_self, q_sw]
    refine q_u1 (by decide) (c_isWithin l S (nI n) 0 1) ?_
    rw [decide_eq_true h2]
    refine q_u0 (by decide) (c_need1 l S) ?_
    refine q_u29 (by decide) (c_latest l S hH) ?_
    rw [hV.1]
    refine q_u1 (by decide) (c_nextOut l S hO.1 hY gv.1.1) ?_
    unfold nxA
    rw [show (0 : Int32) = nI 0 from rfl, nI_eq (by omega) (by decide)]
    cases hx : nxt (aY a) (aV a).1 with
    | none => exact ⟨fun _ => ⟨rfl, rfl⟩, fun h => absurd rfl h⟩
    | some c =>
      have hc := inn_lt gv.1 ((nxt_fst gv.1).mp hx).1
      have hb := bo_lt (ahd_lt gv.1.1 c)
      refine ⟨fun h => absurd h (i_ne1 (n := c) (by omega)), fun _ => ⟨fun h => ?_, fun h => ?_⟩⟩
      · refine q_u1 (by decide) (c_aheadOf l S gv.1.1 (c := c) (by omega)) ?_
        refine q_u1 (by decide) (c_bitCount l S (n := bo (ahd (aV a).1 c)) (by omega)) ?_
        dsimp only
        rw [if_neg h]
        exact ⟨rfl, rfl⟩
      · dsimp only
        rw [if_pos h]
        exact ⟨rfl, rfl⟩
  · rw [spI_1 h2]
    refine CA_x (d := 7) (by decide) ?_
    refine q_methC zoX10_next (Nat.le_of_ble_eq_true rfl) ?_
    intro AT step hX
    refine step 40 [(1, [true, true, true, true, true])] 0 _ _ _ ?_
    simp only [q_vcs, q_vcc, q_vl, q_vu, ↓reduceIte, Nat.reduceEqDiff, Bool.false_eq_true, q_isc, q_mk, q_msk, zbX10_next, q_pad, q_ent, q_get, q_put, q_nl, q_w, List.cons_append, List.nil_append, q_aks, q_als, Nat.reduceAdd, Nat.reduceLeDiff, Nat.zero_le, true_and, and_true, Option.some.injEq, Sum.inl.injEq, Sum.inr.injEq, true_or, or_true, and_self, q_sw]
    refine q_u1 (by decide) (c_isWithin l S y 0 1) ?_
    rw [decide_eq_false h2]
    exact hX 1 _ _ _ ⟨_, _, _, _, _, _, _, _, _, _, _, _, _, zbX10_next.2.1, rfl, Nat.le_of_ble_eq_true rfl, Nat.le_of_ble_eq_true rfl, by decide, c_needX l hl hC nmI 1 rfl⟩
theorem a_leaks (l : Launch) (hl : l.stackTraces = false) {S : qSt} {t : Nat} {a : AS} {B : Nat} (hC : CL S t a) (hO : OKA a B) (ht : t + 25 < 65536) (y : Int32) : CA l k_X10_leaks [.inr (.inr (0, 0)), .inl y] S t nmI (sp_leaks a y) := by
  unfold sp_leaks
  by_cases h2 : 0 ≤ y ∧ y ≤ 2
  · rw [spI_2 h2]
    obtain ⟨n, hn, rfl⟩ := i_rng (m := 2) (by decide) h2.1 h2.2
    have hH := hC.2.2.2.1
    have hV := hH.2.2 (aW a) (Nat.le_refl _)
    have hY := hC.1.2.2.2
    have gv := hO.v
    have h3 := hO.1.1
    have h6 := hO.1.2.1
    rw [i_cl (by omega)]
    refine CA_r (d := 9) (by decide) ?_
    refine q_meth zoX10_leaks q_fos (Nat.le_of_ble_eq_true rfl) ?_
    intro AT step
    refine step 40 [] 0 _ _ _ ?_
    simp only [q_vcs, q_vcc, q_vl, q_vu, ↓reduceIte, Nat.reduceEqDiff, Bool.false_eq_true, q_isc, q_mk, q_msk, zbX10_leaks, q_pad, q_ent, q_get, q_put, q_nl, q_w, List.cons_append, List.nil_append, q_aks, q_als, Nat.reduceAdd, Nat.reduceLeDiff, Nat.zero_le, true_and, and_true, Option.some.injEq, Sum.inl.injEq, Sum.inr.injEq, true_or, or_true, and_self, q_sw]
    refine q_u1 (by decide) (c_isWithin l S (nI n) 0 2) ?_
    rw [decide_eq_true h2]
    refine q_u0 (by decide) (c_need1 l S) ?_
    refine q_u29 (by decide) (c_latest l S hH) ?_
    rw [hV.1]
    refine ⟨_, _, (by decide : 3 < 9), c_lookAt l S hO.1 hY.1 gv.1.1 hC.2.2.1.2.2.2, fun S1 h => ?_⟩
    obtain ⟨s1, s2⟩ := h
    have hC1 := CL_sl hC s1 s2
    have e5 : q_M S1 0 0 5 = q_M S 0 0 5 := by rw [(s2 0 0 (by omega)).2.2]
    have fin : (∃ t', t' ≤ t + 25 ∧ CL S1 t' a) ∧ fr Fcl S S1 := ⟨⟨t, by omega, hC1⟩, s2.mn (fun f i q => by show f < 40; omega)⟩
    rw [e5, show (0 : Int32) = nI 0 from rfl, show (1 : Int32) = nI 1 from rfl, nI_eq (by omega) (by decide), nI_eq (by omega) (by decide)]
    refine ⟨fun e => ?_, fun e0 => ⟨fun e => ?_, fun e1 => ?_⟩⟩
    · subst e; exact q_u1 (by decide) (c_howMany l S1 hO.1 gv.1.1 s1) ⟨rfl, fin⟩
    · subst e; exact q_u1 (by decide) (c_firstSet l S1 hO.1 gv.1.1 s1) ⟨rfl, fin⟩
    · have e : n = 2 := by omega
      subst e
      exact q_u1 (by decide) (c_inAll l S1 hO.1 gv.1.1 s1) ⟨rfl, fin⟩
  · rw [spI_1 h2]
    refine CA_x (d := 7) (by decide) ?_
    refine q_methC zoX10_leaks (Nat.le_of_ble_eq_true rfl) ?_
    intro AT step hX
    refine step 40 [(1, [true, true])] 0 _ _ _ ?_
    simp only [q_vcs, q_vcc, q_vl, q_vu, ↓reduceIte, Nat.reduceEqDiff, Bool.false_eq_true, q_isc, q_mk, q_msk, zbX10_leaks, q_pad, q_ent, q_get, q_put, q_nl, q_w, List.cons_append, List.nil_append, q_aks, q_als, Nat.reduceAdd, Nat.reduceLeDiff, Nat.zero_le, true_and, and_true, Option.some.injEq, Sum.inl.injEq, Sum.inr.injEq, true_or, or_true, and_self, q_sw]
    refine q_u1 (by decide) (c_isWithin l S y 0 2) ?_
    rw [decide_eq_false h2]
    exact hX 1 _ _ _ ⟨_, _, _, _, _, _, _, _, _, _, _, _, _, zbX10_leaks.2.1, rfl, Nat.le_of_ble_eq_true rfl, Nat.le_of_ble_eq_true rfl, by decide, c_needX l hl hC nmI 1 rfl⟩
theorem a_look (l : Launch) (hl : l.stackTraces = false) {S : qSt} {t : Nat} {a : AS} {B : Nat} (hC : CL S t a) (hO : OKA a B) (ht : t + 25 < 65536) (y : Int32) : CA l k_X10_look [.inr (.inr (0, 0)), .inl y] S t nmI (sp_look a y) := by
  unfold sp_look
  by_cases h2 : 0 ≤ y ∧ y ≤ 1
  · rw [spI_2 h2]
    obtain ⟨n, hn, rfl⟩ := i_rng (m := 1) (by decide) h2.1 h2.2
    have hH := hC.2.2.2.1
    have hV := hH.2.2 (aW a) (Nat.le_refl _)
    have hY := hC.1.2.2.2
    have gv := hO.v
    have h3 := hO.1.1
    have h6 := hO.1.2.1
    rw [i_cl (by omega)]
    refine CA_r (d := 9) (by decide) ?_
    refine q_meth zoX10_look q_fos (Nat.le_of_ble_eq_true rfl) ?_
    intro AT step
    refine step 40 [] 0 _ _ _ ?_
    simp only [q_vcs, q_vcc, q_vl, q_vu, ↓reduceIte, Nat.reduceEqDiff, Bool.false_eq_true, q_isc, q_mk, q_msk, zbX10_look, q_pad, q_ent, q_get, q_put, q_nl, q_w, List.cons_append, List.nil_append, q_aks, q_als, Nat.reduceAdd, Nat.reduceLeDiff, Nat.zero_le, true_and, and_true, Option.some.injEq, Sum.inl.injEq, Sum.inr.injEq, true_or, or_true, and_self, q_sw]
    refine q_u1 (by decide) (c_isWithin l S (nI n) 0 1) ?_
    rw [decide_eq_true h2]
    refine q_u0 (by decide) (c_need1 l S) ?_
    refine q_u29 (by decide) (c_latest l S hH) ?_
    rw [hV.1]
    refine ⟨_, _, (by decide : 3 < 9), c_lookAt l S hO.1 hY.1 gv.1.1 hC.2.2.1.2.2.2, fun S1 h => ?_⟩
    obtain ⟨s1, s2⟩ := h
    have hC1 := CL_sl hC s1 s2
    have e5 : q_M S1 0 0 5 = q_M S 0 0 5 := by rw [(s2 0 0 (by omega)).2.2]
    have fin : (∃ t', t' ≤ t + 25 ∧ CL S1 t' a) ∧ fr Fcl S S1 := ⟨⟨t, by omega, hC1⟩, s2.mn (fun f i q => by show f < 40; omega)⟩
    rw [e5]
    refine q_u1 (by decide) (c_bestPlace l S1 hO.1 gv.1.1 s1) ?_
    have hlt := (bpn_lt (aY a) (aV a).1 (aLn a) (aOi a) 12).1
    unfold loV
    rw [e5]
    cases hb : (bpn (aY a) (aV a).1 (aLn a) (aOi a) 12).1 with
    | none => exact ⟨fun h => absurd rfl h, fun _ => ⟨rfl, fin⟩⟩
    | some p =>
      have hp := hlt p hb
      rw [show oI (some p) = nI p from rfl, show (0 : Int32) = nI 0 from rfl, nI_eq (by omega) (by decide), show (4 : Int32) = nI 4 from rfl, i_rem (by omega) (by decide) (by decide), i_div (by omega) (by decide) (by decide), show (10 : Int32) = nI 10 from rfl, pk_mul, nI_add]
      refine ⟨fun _ => ⟨fun h => ?_, fun h => ⟨by decide, by decide, ?_⟩⟩, fun h => absurd h (i_ne1 (n := p) (by omega))⟩
      · refine q_u1 (by decide) (c_worstAt l S1 hO.1 gv.1.1 s1 hp) ?_
        dsimp only
        rw [if_neg h]
        exact ⟨rfl, fin⟩
      · dsimp only
        rw [if_pos h]
        exact ⟨rfl, fin⟩
  · rw [spI_1 h2]
    refine CA_x (d := 7) (by decide) ?_
    refine q_methC zoX10_look (Nat.le_of_ble_eq_true rfl) ?_
    intro AT step hX
    refine step 40 [(1, [true, true, true])] 0 _ _ _ ?_
    simp only [q_vcs, q_vcc, q_vl, q_vu, ↓reduceIte, Nat.reduceEqDiff, Bool.false_eq_true, q_isc, q_mk, q_msk, zbX10_look, q_pad, q_ent, q_get, q_put, q_nl, q_w, List.cons_append, List.nil_append, q_aks, q_als, Nat.reduceAdd, Nat.reduceLeDiff, Nat.zero_le, true_and, and_true, Option.some.injEq, Sum.inl.injEq, Sum.inr.injEq, true_or, or_true, and_self, q_sw]
    refine q_u1 (by decide) (c_isWithin l S y 0 1) ?_
    rw [decide_eq_false h2]
    exact hX 1 _ _ _ ⟨_, _, _, _, _, _, _, _, _, _, _, _, _, zbX10_look.2.1, rfl, Nat.le_of_ble_eq_true rfl, Nat.le_of_ble_eq_true rfl, by decide, c_needX l hl hC nmI 1 rfl⟩
theorem a_corner (l : Launch) (hl : l.stackTraces = false) {S : qSt} {t : Nat} {a : AS} {B : Nat} (hC : CL S t a) (hO : OKA a B) (ht : t + 25 < 65536) (x : Int32) : CA l k_X10_corner [.inr (.inr (0, 0)), .inl x] S t nmC (sp_corn a x) := by
  unfold sp_corn
  by_cases h1 : isCr a x
  · rw [spK_3 h1 trivial]
    obtain ⟨k, hk, rfl⟩ := isCr_ex hO h1
    have hH := hC.2.2.2.1
    have hV := hH.2.2 (aW a) (Nat.le_refl _)
    have hY := hC.1.2.2.2
    have gv := hO.v
    have h3 := hO.1.1
    have h6 := hO.1.2.1
    rw [i_cl (by omega)]
    refine CA_r (d := 9) (by decide) ?_
    refine q_meth zoX10_corner q_fos (Nat.le_of_ble_eq_true rfl) ?_
    intro AT step
    refine step 40 [] 0 _ _ _ ?_
    simp only [q_vcs, q_vcc, q_vl, q_vu, ↓reduceIte, Nat.reduceEqDiff, Bool.false_eq_true, q_isc, q_mk, q_msk, zbX10_corner, q_pad, q_ent, q_get, q_put, q_nl, q_w, List.cons_append, List.nil_append, q_aks, q_als, Nat.reduceAdd, Nat.reduceLeDiff, Nat.zero_le, true_and, and_true, Option.some.injEq, Sum.inl.injEq, Sum.inr.injEq, true_or, or_true, and_self, q_sw]
    refine q_u0 (by decide) (c_needCarO l hC h1) ?_
    refine q_u29 (by decide) (c_latest l S hH) ?_
    rw [hV.1]
    refine q_u1 (by decide) (c_laneOf l S gv.1.1 (c := k) (by omega)) ?_
    unfold cnA
    cases hl9 : lnof (aV a).1 k with
    | none => exact ⟨fun h => absurd rfl h, fun _ => ⟨rfl, ⟨t, by omega, hC⟩, fr.rf⟩⟩
    | some j =>
      have hj := (lnof_lt hl9).1
      refine ⟨fun _ => ?_, fun h => absurd h (i_ne1 (n := j) (by omega))⟩
      refine ⟨_, _, (by decide : 7 < 9), c_seekA l hC hO (w := 0) (g := none) (by decide) gv.1 (fitW_of gv.2.1) (by omega) (fun c hc => by cases hc), fun v S' h => ?_⟩
      obtain ⟨g1, g2, g3, ⟨t', g4, g5⟩, g6⟩ := h
      cases g1
      have fr1 : fr Fcl S S' := g6.mn (fun f i q => by show f < 40; rcases q with q | q | q | q <;> omega)
      dsimp only
      cases hq : (fewA (aY a) 0 none (aV a).1).1 with
      | none => exact ⟨fun h => absurd rfl h, fun _ => ⟨rfl, ⟨t', by omega, g5⟩, fr1⟩⟩
      | some F =>
        have hF := g3 F hq
        refine ⟨fun _ => ?_, fun h => absurd h (i_ne1 (n := F) (by omega))⟩
        obtain ⟨A, u, q1, q2, q3, q4⟩ := erase_ok gv.1 hl9
        refine q_u2 (by decide) (c_takeAway l S' gv.1.1 (c := k) (by omega) hl9) ?_
        rw [q2]
        refine ⟨_, _, (by decide : 7 < 9), c_seekA l g5 hO (w := 0) (g := none) (by decide) q3 (q4 0 (fitW_of gv.2.1)) (by omega) (fun c hc => by cases hc), fun v S2 h => ?_⟩
        obtain ⟨k1, k2, k3, ⟨t2, k4, k5⟩, k6⟩ := h
        cases k1
        exact ⟨rfl, ⟨t2, by omega, k5⟩, fr1.tr (k6.mn (fun f i q => by show f < 40; rcases q with q | q | q | q <;> omega))⟩
  · rw [spK_1 h1]
    refine CA_x (d := 7) (by decide) ?_
    refine q_methC zoX10_corner (Nat.le_of_ble_eq_true rfl) ?_
    intro AT step hX
    refine step 40 [(1, [true, true, true, true, true])] 0 _ _ _ ?_
    simp only [q_vcs, q_vcc, q_vl, q_vu, ↓reduceIte, Nat.reduceEqDiff, Bool.false_eq_true, q_isc, q_mk, q_msk, zbX10_corner, q_pad, q_ent, q_get, q_put, q_nl, q_w, List.cons_append, List.nil_append, q_aks, q_als, Nat.reduceAdd, Nat.reduceLeDiff, Nat.zero_le, true_and, and_true, Option.some.injEq, Sum.inl.injEq, Sum.inr.injEq, true_or, or_true, and_self, q_sw]
    exact hX 1 _ _ _ ⟨_, _, _, _, _, _, _, _, _, _, _, _, _, zbX10_corner.2.1, rfl, Nat.le_of_ble_eq_true rfl, Nat.le_of_ble_eq_true rfl, by decide, c_needCarX l hl hC h1⟩
