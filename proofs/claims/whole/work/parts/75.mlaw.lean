/-! the reference: reckoning by the law -/
theorem div_m1 (a : Int32) : a / (-1) = -a := by
  have h : (-1 : Int32).toInt = -1 := by decide
  rw [fa_eq, Int32.toInt_div, h, Int.tdiv_neg, Int.tdiv_one, Int32.toInt_neg]
theorem rem_m1 (a : Int32) : a - a / (-1) * (-1) = 0 := by
  rw [div_m1]
  have : -a * -1 = a := by
    rw [Int32.mul_neg, Int32.mul_one, Int32.neg_neg]
  rw [this, Int32.sub_self]
theorem c_mby (l : Launch) (S : qSt) {k : Nat} (a b : Int32) (hk : 2 ≤ k ∧ k ≤ 8) : q_Met q_mt l 1 k_X11_by 1 [.inl (nI k), .inl a, .inl b] S (fun r S' => r = some (.inl (rck k a b)) ∧ S' = S) := by
  refine q_meth zoX11_by q_fos (Nat.le_of_ble_eq_true rfl) ?_
  intro AT step
  refine step 20 [] 0 _ _ _ ?_
  simp only [q_vcs, q_vcc, q_vl, q_vu, ↓reduceIte, Nat.reduceEqDiff, Bool.false_eq_true, q_isc, q_mk, q_msk, zbX11_by, q_pad, q_ent, q_get, q_put, q_nl, q_w, List.cons_append, List.nil_append, q_aks, q_als, Nat.reduceAdd, Nat.reduceLeDiff, Nat.zero_le, true_and, and_true, Option.some.injEq, Sum.inl.injEq, Sum.inr.injEq, true_or, or_true, and_self, q_sw]
  have hk2 : k = 2 ∨ k = 3 ∨ k = 4 ∨ k = 5 ∨ k = 6 ∨ k = 7 ∨ k = 8 := by omega
  rcases hk2 with rfl | rfl | rfl | rfl | rfl | rfl | rfl
  · exact ⟨fun _ => (by first | trivial | rfl | exact ⟨rfl, rfl⟩), fun h => absurd rfl h⟩
  · exact ⟨fun h => absurd h (by decide), fun _ => ⟨fun _ => (by first | trivial | rfl | exact ⟨rfl, rfl⟩), fun h => absurd rfl h⟩⟩
  · exact ⟨fun h => absurd h (by decide), fun _ => ⟨fun h => absurd h (by decide), fun _ => ⟨fun _ => (by first | trivial | rfl | exact ⟨rfl, rfl⟩), fun h => absurd rfl h⟩⟩⟩
  · refine ⟨fun h => absurd h (by decide), fun _ => ⟨fun h => absurd h (by decide), fun _ => ⟨fun h => absurd h (by decide), fun _ => ⟨fun _ => ?_, fun h => absurd rfl h⟩⟩⟩⟩
    refine ⟨fun h => ⟨fun h1 => ⟨h, ?_⟩, fun h1 => ?_⟩, fun h => ?_⟩
    · show a / b = if b = 0 then 0 else a / b
      rw [if_neg h]
    · show -a = if b = 0 then 0 else a / b
      rw [if_neg h, h1, div_m1]
    · show 0 = if b = 0 then 0 else a / b
      rw [if_pos h]
  · refine ⟨fun h => absurd h (by decide), fun _ => ⟨fun h => absurd h (by decide), fun _ => ⟨fun h => absurd h (by decide), fun _ => ⟨fun h => absurd h (by decide), fun _ => ⟨fun _ => ?_, fun h => absurd rfl h⟩⟩⟩⟩⟩
    refine ⟨fun h => ?_, fun h => ⟨fun h1 => ⟨h, ?_⟩, fun h1 => ?_⟩⟩
    · show 0 = if b = 0 then 0 else a - a / b * b
      rw [if_pos h]
    · show a - a / b * b = if b = 0 then 0 else a - a / b * b
      rw [if_neg h]
    · show 0 = if b = 0 then 0 else a - a / b * b
      rw [if_neg h, h1, rem_m1]
  · refine ⟨fun h => absurd h (by decide), fun _ => ⟨fun h => absurd h (by decide), fun _ => ⟨fun h => absurd h (by decide), fun _ => ⟨fun h => absurd h (by decide), fun _ => ⟨fun h => absurd h (by decide), fun _ => ⟨fun _ => ?_, fun h => absurd rfl h⟩⟩⟩⟩⟩⟩
    refine q_u1 (by decide) (c_mless l S a b) ⟨?_, rfl⟩
    show (if a < b then a else b) = (if b < a then b else a)
    rcases fa_three a b with h | h | h
    · rw [if_pos h, if_neg (fa_of_lt h).2.2.1]
    · rw [h]
    · rw [if_neg (fa_of_lt h).2.2.1, if_pos h]
  · refine ⟨fun h => absurd h (by decide), fun _ => ⟨fun h => absurd h (by decide), fun _ => ⟨fun h => absurd h (by decide), fun _ => ⟨fun h => absurd h (by decide), fun _ => ⟨fun h => absurd h (by decide), fun _ => ⟨fun h => absurd h (by decide), fun _ => ?_⟩⟩⟩⟩⟩⟩
    refine q_u1 (by decide) (c_mmore l S a b) ⟨?_, rfl⟩
    show (if b < a then a else b) = (if a < b then b else a)
    rcases fa_three a b with h | h | h
    · rw [if_neg (fa_of_lt h).2.2.1, if_pos h]
    · rw [h]
    · rw [if_pos h, if_neg (fa_of_lt h).2.2.1]
theorem secn_m (v : Int32) : (if 99 < (if v < 1 then 1 else v) then 99 else (if v < 1 then 1 else v)) = nI (secn v) := by
  have h1 : (1 : Int32).toInt = 1 := by decide
  have h99 : (99 : Int32).toInt = 99 := by decide
  unfold secn
  by_cases a : v.toInt < 1
  · rw [if_pos a, if_pos (show v < 1 by rw [fa_lt, h1]; omega)]
    decide
  · rw [if_neg a, if_neg (show ¬ v < 1 by rw [fa_lt, h1]; omega)]
    by_cases b : 99 < v.toInt
    · rw [if_pos b, if_pos (show 99 < v by rw [fa_lt, h99]; omega)]
      rfl
    · rw [if_neg b, if_neg (show ¬ 99 < v by rw [fa_lt, h99]; omega)]
      rw [fa_eq, nI_toInt (by omega)]
      omega
def MLC (S : qSt) (c : List Tok) : Prop := q_I S 40 0 19 = nI c.length ∧ ∀ k, k < c.length → q_I S 54 k 0 = nI (c.getD k (0, 0)).1 ∧ q_I S 54 k 1 = nI (c.getD k (0, 0)).2
/-- the law as the reference holds it -/
def MLW (S : qSt) (c : List Tok) : Prop := (c = defc ∧ q_I S 40 0 19 = nI 0) ∨ (0 < c.length ∧ MLC S c)
def KF (S : qSt) (F : Nat → Int32) : Prop := ∀ k, k < 8 → q_I S 62 0 k = F k
def MVS (S : qSt) (st : List Int32) : Prop := ∀ j, j < st.length → q_I S 61 0 j = st.reverse.getD j 0
theorem MVS.push {S : qSt} {st : List Int32} (h : MVS S st) (v : Int32) : MVS (q_wI S 61 0 st.length v) (v :: st) := by
  intro j hj
  simp only [List.length_cons] at hj
  rw [q_I_wI, List.getD_eq_getElem?_getD, List.reverse_cons]
  by_cases e : j = st.length
  · subst e
    simp
  · rw [if_neg (by omega), h j (by omega), List.getD_eq_getElem?_getD, List.getElem?_append_left (by simp; omega)]
theorem MVS.pop {S : qSt} {st : List Int32} {v : Int32} (h : MVS S (v :: st)) : q_I S 61 0 st.length = v ∧ MVS S st := by
  refine ⟨?_, fun j hj => ?_⟩
  · rw [h st.length (by simp), List.getD_eq_getElem?_getD, List.reverse_cons]
    simp
  · rw [h j (by simp; omega), List.getD_eq_getElem?_getD, List.reverse_cons, List.getElem?_append_left (by simp; omega), List.getD_eq_getElem?_getD]
abbrev F61 : Nat → Nat → Prop := fun f _ => f = 61
theorem fr61 {S S1 : qSt} (h : fr F61 S S1) {j : Nat} {v : Int32} : fr F61 S (q_wI S1 61 0 j v) := fr.wI h rfl
set_option maxHeartbeats 1000000 in
theorem c_mbyLaw (l : Launch) (S : qSt) {c : List Tok} {F : Nat → Int32} (hw : lwf c) (hc : MLW S c) (hF : KF S F) : q_Met q_mt l 2 k_X11_byLaw 1 [.inr (.inr (40, 0))] S (fun r S' => r = some (.inl (nI (secn (lvv F c)))) ∧ fr F61 S S') := by
  obtain ⟨hok, hrp, hlen⟩ := hw
  refine q_meth zoX11_byLaw q_fos (Nat.le_of_ble_eq_true rfl) ?_
  intro AT step
  have f0 : q_I S 62 0 (Int32.toNatClampNeg 0) = F 0 := hF 0 (by decide)
  have f1 : q_I S 62 0 (Int32.toNatClampNeg 1) = F 1 := hF 1 (by decide)
  have fin : ∀ (S1 : qSt) (x y : Int32), q_I S1 61 0 0 = lvv F c → fr F61 S S1 → AT 6 [some (.inr (.inr (40, 0))), some (.inl x), some (.inl y)] [] S1 := by
    intro S1 x y h1 h2
    refine step 20 [] 6 _ _ _ ?_
    simp only [q_vcs, q_vcc, q_vl, q_vu, ↓reduceIte, Nat.reduceEqDiff, Bool.false_eq_true, q_isc, q_mk, q_msk, zbX11_byLaw, q_pad, q_ent, q_get, q_put, q_nl, q_w, List.cons_append, List.nil_append, q_aks, q_als, Nat.reduceAdd, Nat.reduceLeDiff, Nat.zero_le, true_and, and_true, Option.some.injEq, Sum.inl.injEq, Sum.inr.injEq, true_or, or_true, and_self, q_sw]
    have e0 : q_I S1 61 0 (Int32.toNatClampNeg 0) = lvv F c := h1
    rw [e0]
    refine ⟨i_in (by decide) (by decide), q_u1 (by decide) (c_mmore l S1 1 (lvv F c)) ?_⟩
    refine q_u1 (by decide) (c_mless l S1 99 _) ?_
    have := secn_m (lvv F c)
    rw [this]
    exact ⟨rfl, h2⟩
  rcases hc with ⟨rfl, hm⟩ | ⟨hpos, hm, hrow⟩
  · refine step 40 [(1, [true, true, true]), (6, [true, true, true])] 0 _ _ _ ?_
    simp only [q_vcs, q_vcc, q_vl, q_vu, ↓reduceIte, Nat.reduceEqDiff, Bool.false_eq_true, q_isc, q_mk, q_msk, zbX11_byLaw, q_pad, q_ent, q_get, q_put, q_nl, q_w, List.cons_append, List.nil_append, q_aks, q_als, Nat.reduceAdd, Nat.reduceLeDiff, Nat.zero_le, true_and, and_true, Option.some.injEq, Sum.inl.injEq, Sum.inr.injEq, true_or, or_true, and_self, q_sw]
    rw [f0, f1]
    refine ⟨i_in (by decide) (by decide), i_in (k := 1) (by decide) (by decide), i_in (by decide) (by decide), ?_⟩
    refine step 40 [(1, [true, true, true]), (6, [true, true, true])] 1 _ _ _ ?_
    simp only [q_vcs, q_vcc, q_vl, q_vu, ↓reduceIte, Nat.reduceEqDiff, Bool.false_eq_true, q_isc, q_mk, q_msk, zbX11_byLaw, q_pad, q_ent, q_get, q_put, q_nl, q_w, List.cons_append, List.nil_append, q_aks, q_als, Nat.reduceAdd, Nat.reduceLeDiff, Nat.zero_le, true_and, and_true, Option.some.injEq, Sum.inl.injEq, Sum.inr.injEq, true_or, or_true, and_self, q_sw]
    have hm' : q_I (q_wI S 61 0 (Int32.toNatClampNeg 0) (10 * F 0 + 5 * F 1)) 40 0 19 = nI 0 := hm
    rw [hm']
    refine ⟨fun _ => fin _ _ _ ?_ (fr61 fr.rf), fun h => absurd (by decide) h⟩
    rw [lvv_def, Int32.mul_comm (F 0), Int32.mul_comm (F 1)]
    rw [q_I_wI, if_pos ⟨rfl, rfl, rfl⟩]
  · have hL : ∀ (r : List Tok) (k : Nat) (st : List Int32) (S1 : qSt), c.drop k = r → k + r.length = c.length → rpd r st.length = some 1 → evs F r st = evs F c [] → st.length ≤ k → MVS S1 st → fr F61 S S1 → AT 1 [some (.inr (.inr (40, 0))), some (.inl (nI st.length)), some (.inl (nI k))] [] S1 := by
      intro r
      induction r with
      | nil =>
        intro k st S1 hd hk hr he hs hv hf
        have hm1 : q_I S1 40 0 19 = nI c.length := by rw [(hf 40 0 (fun h => by cases h)).1]; exact hm
        simp only [List.length_nil, Nat.add_zero] at hk
        refine step 40 [(1, [true, true, true]), (6, [true, true, true])] 1 _ _ _ ?_
        simp only [q_vcs, q_vcc, q_vl, q_vu, ↓reduceIte, Nat.reduceEqDiff, Bool.false_eq_true, q_isc, q_mk, q_msk, zbX11_byLaw, q_pad, q_ent, q_get, q_put, q_nl, q_w, List.cons_append, List.nil_append, q_aks, q_als, Nat.reduceAdd, Nat.reduceLeDiff, Nat.zero_le, true_and, and_true, Option.some.injEq, Sum.inl.injEq, Sum.inr.injEq, true_or, or_true, and_self, q_sw]
        rw [hm1, nI_leI (by omega) (by omega)]
        refine ⟨fun _ => fin S1 _ _ ?_ hf, fun h => absurd (by omega) h⟩
        have hst : st.length = 1 := Option.some.inj hr
        match st, hst with
        | [v], _ =>
          have hv0 : q_I S1 61 0 0 = v := (MVS.pop hv).1
          rw [hv0]
          unfold lvv
          rw [← he]
          rfl
      | cons t r ih =>
        intro k st S1 hd hk hr he hs hv hf
        have hm1 : q_I S1 40 0 19 = nI c.length := by rw [(hf 40 0 (fun h => by cases h)).1]; exact hm
        simp only [List.length_cons] at hk
        have hkl : k < c.length := by omega
        have htk : c[k] = t ∧ c.drop (k + 1) = r := by
          rw [List.drop_eq_getElem_cons hkl] at hd
          exact ⟨(List.cons.inj hd).1, (List.cons.inj hd).2⟩
        have htm : t ∈ c := by rw [← htk.1]; exact List.getElem_mem hkl
        have hto := hok t htm
        have hgd : c.getD k (0, 0) = t := by rw [List.getD_eq_getElem?_getD, List.getElem?_eq_getElem hkl, htk.1]; rfl
        have c0 : q_I S1 54 k (Int32.toNatClampNeg 0) = nI t.1 := by
          rw [(hf 54 k (fun h => by cases h)).1, ← hgd]
          exact (hrow k hkl).1
        have c1 : q_I S1 54 k (Int32.toNatClampNeg 1) = nI t.2 := by
          rw [(hf 54 k (fun h => by cases h)).1, ← hgd]
          exact (hrow k hkl).2
        unfold rpd at hr
        rw [show evs F (t :: r) st = evs F r (evt F t st) from rfl] at he
        have v0 : vp_in 0 2 := i_in (by decide) (by decide)
        have v1 : vp_in 1 2 := i_in (k := 1) (by decide) (by decide)
        have vk : vp_in (nI k) 160 := i_in (by omega) (by decide)
        refine step 40 [(1, [true, true, true]), (6, [true, true, true])] 1 _ _ _ ?_
        simp only [q_vcs, q_vcc, q_vl, q_vu, ↓reduceIte, Nat.reduceEqDiff, Bool.false_eq_true, q_isc, q_mk, q_msk, zbX11_byLaw, q_pad, q_ent, q_get, q_put, q_nl, q_w, List.cons_append, List.nil_append, q_aks, q_als, Nat.reduceAdd, Nat.reduceLeDiff, Nat.zero_le, true_and, and_true, Option.some.injEq, Sum.inl.injEq, Sum.inr.injEq, true_or, or_true, and_self, q_sw]
        rw [hm1, nI_leI (by omega) (by omega), i_cl (by omega), c0, c1]
        refine ⟨fun h => absurd h (by omega), fun _ => ⟨vk, v0, ?_⟩⟩
        rcases hto with ⟨t1, t2⟩ | ⟨t1, t2⟩ | ⟨t1, t2⟩
        · rw [t1, i_cl (by omega), nI_1, nI_1]
          refine ⟨fun h => absurd h (by decide), fun _ => ⟨vk, v0, fun h => absurd rfl h, fun _ => ⟨vk, v1, i_in (by omega) (by decide), ?_⟩⟩⟩
          rw [if_pos (by omega)] at hr
          have e2 : evt F t st = nI t.2 :: st := by unfold evt; simp only [t1]
          rw [e2] at he
          exact ih (k + 1) (nI t.2 :: st) _ htk.2 (by omega) hr he (by simp; omega) (hv.push _) (fr61 hf)
        · have hF1 : q_I S1 62 0 t.2 = F t.2 := by rw [(hf 62 0 (fun h => by cases h)).1]; exact hF t.2 t2
          rw [t1, i_cl (k := t.2) (by omega), hF1, i_cl (by omega), nI_1, nI_1]
          refine ⟨fun h => absurd h (by decide), fun _ => ⟨vk, v0, fun _ => ⟨vk, v1, i_in (by omega) (by decide), i_in (by omega) (by decide), ?_⟩, fun h => absurd h (by decide)⟩⟩
          rw [if_pos (by omega)] at hr
          have e2 : evt F t st = F t.2 :: st := by unfold evt; simp only [t1]
          rw [e2] at he
          exact ih (k + 1) (F t.2 :: st) _ htk.2 (by omega) hr he (by simp; omega) (hv.push _) (fr61 hf)
        · rw [if_neg (by omega)] at hr
          have h2 : 2 ≤ st.length := by
            by_cases h : 2 ≤ st.length
            · exact h
            · rw [if_neg h] at hr; cases hr
          rw [if_pos h2] at hr
          match st, h2 with
          | b :: a :: r9, _ =>
            have e2 : evt F t (b :: a :: r9) = rck t.1 a b :: r9 := by
              unfold evt
              split
              · omega
              · omega
              · rfl
            rw [e2] at he
            obtain ⟨vb, hv1⟩ := hv.pop
            obtain ⟨va, hv2⟩ := hv1.pop
            have l1 : (b :: a :: r9).length = r9.length + 2 := rfl
            have l2 : (a :: r9).length = r9.length + 1 := rfl
            rw [l2] at vb
            have x3 : nI (r9.length + 2) + -1 = nI (r9.length + 1) := pk_m1 _
            have x1 : nI (r9.length + 1) - 1 = nI r9.length := i_m1 _
            simp only [List.length_cons] at hs
            rw [show (2 : Int32) = nI 2 from rfl, nI_leI (by decide) (by omega), l1, x3, x1, i_cl (k := r9.length) (by omega), i_cl (k := r9.length + 1) (by omega), va, vb]
            refine ⟨fun _ => ⟨vk, v0, i_in (by omega) (by decide), i_in (by omega) (by decide), ?_⟩, fun h => absurd t1 h⟩
            refine q_u1 (by decide) (c_mby l S1 a b ⟨t1, t2⟩) ?_
            rw [nI_1]
            refine ⟨i_in (by omega) (by decide), ?_⟩
            exact ih (k + 1) (rck t.1 a b :: r9) _ htk.2 (by omega) hr he (by simp; omega) (hv2.push _) (fr61 hf)
    refine step 40 [(1, [true, true, true]), (6, [true, true, true])] 0 _ _ _ ?_
    simp only [q_vcs, q_vcc, q_vl, q_vu, ↓reduceIte, Nat.reduceEqDiff, Bool.false_eq_true, q_isc, q_mk, q_msk, zbX11_byLaw, q_pad, q_ent, q_get, q_put, q_nl, q_w, List.cons_append, List.nil_append, q_aks, q_als, Nat.reduceAdd, Nat.reduceLeDiff, Nat.zero_le, true_and, and_true, Option.some.injEq, Sum.inl.injEq, Sum.inr.injEq, true_or, or_true, and_self, q_sw]
    refine ⟨i_in (by decide) (by decide), i_in (k := 1) (by decide) (by decide), i_in (by decide) (by decide), ?_⟩
    exact hL c 0 [] _ rfl (by omega) hrp rfl (by simp) (fun j hj => by simp at hj) (fr61 fr.rf)
