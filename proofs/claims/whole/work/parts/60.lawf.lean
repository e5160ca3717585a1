/-! Law: its reckoning -/
def rck (k : Nat) (a b : Int32) : Int32 := match k with
  | 2 => a + b
  | 3 => a - b
  | 4 => a * b
  | 5 => if b = 0 then 0 else a / b
  | 6 => if b = 0 then 0 else a - a / b * b
  | 7 => if b < a then b else a
  | _ => if a < b then b else a
def evt (F : Nat → Int32) (t : Tok) (st : List Int32) : List Int32 := match t.1 with
  | 0 => nI t.2 :: st
  | 1 => F t.2 :: st
  | k => match st with
    | b :: a :: r => rck k a b :: r
    | st => st
def evs (F : Nat → Int32) : List Tok → List Int32 → List Int32
  | [], st => st
  | t :: ts, st => evs F ts (evt F t st)
def rpd : List Tok → Nat → Option Nat
  | [], k => some k
  | t :: ts, k => if t.1 < 2 then rpd ts (k + 1) else if 2 ≤ k then rpd ts (k - 1) else none
def tko (t : Tok) : Prop := (t.1 = 0 ∧ t.2 < 1000) ∨ (t.1 = 1 ∧ t.2 < 8) ∨ (2 ≤ t.1 ∧ t.1 ≤ 8)
/-- a law that can be reckoned -/
def lwf (c : List Tok) : Prop := (∀ t ∈ c, tko t) ∧ rpd c 0 = some 1 ∧ c.length ≤ 150
def lvv (F : Nat → Int32) (c : List Tok) : Int32 := (evs F c []).headD 0
def secn (v : Int32) : Nat := if v.toInt < 1 then 1 else if 99 < v.toInt then 99 else v.toInt.toNat
theorem secn_c (v : Int32) : (if 1 < (if v < 99 then v else 99) then (if v < 99 then v else 99) else 1) = nI (secn v) := by
  have h1 : (1 : Int32).toInt = 1 := by decide
  have h99 : (99 : Int32).toInt = 99 := by decide
  unfold secn
  by_cases a : v.toInt < 1
  · rw [if_pos a, if_pos (show v < 99 by rw [fa_lt, h99]; omega), if_neg (by rw [fa_lt, h1]; omega)]
    rfl
  · rw [if_neg a]
    by_cases b : 99 < v.toInt
    · rw [if_pos b, if_neg (show ¬ v < 99 by rw [fa_lt, h99]; omega), if_pos (by decide)]
      rfl
    · rw [if_neg b]
      have e : v = nI v.toInt.toNat := by
        rw [fa_eq, nI_toInt (by omega)]
        omega
      by_cases c : v.toInt = 99
      · have e9 : v = 99 := by rw [fa_eq, h99]; exact c
        rw [e9]
        decide
      · rw [if_pos (show v < 99 by rw [fa_lt, h99]; omega)]
        by_cases d : v.toInt = 1
        · have e1 : v = 1 := by rw [fa_eq, h1]; exact d
          rw [e1]
          decide
        · rw [if_pos (by rw [fa_lt, h1]; omega)]
          exact e
theorem secn_le (v : Int32) : 1 ≤ secn v ∧ secn v ≤ 99 := by
  unfold secn
  repeat' split
  all_goals omega
theorem rpd_app : ∀ (u v : List Tok) (k : Nat), rpd (u ++ v) k = (rpd u k).bind (rpd v)
  | [], v, k => rfl
  | t :: u, v, k => by
    simp only [List.cons_append, rpd]
    split
    · exact rpd_app u v (k + 1)
    · split
      · exact rpd_app u v (k - 1)
      · rfl
theorem evs_len (F : Nat → Int32) : ∀ (c : List Tok) (st : List Int32) (m : Nat), rpd c st.length = some m → (evs F c st).length = m
  | [], st, m, h => by cases h; rfl
  | t :: c, st, m, h => by
    unfold rpd at h
    refine evs_len F c _ m ?_
    split at h
    · rename_i h2
      have : t.1 = 0 ∨ t.1 = 1 := by omega
      unfold evt
      rcases this with e | e <;> rw [e] <;> exact h
    · split at h
      · rename_i h2 h3
        unfold evt
        split
        · rename_i e; omega
        · rename_i e; omega
        · match st, h3 with
          | b :: a :: r, _ => exact h
      · cases h
theorem c_reckon (l : Launch) (S : qSt) {k : Nat} (a b : Int32) (hk : 2 ≤ k ∧ k ≤ 8) : q_Met q_mt l 1 k_X1_reckon 1 [.inl (nI (1098 + k)), .inl a, .inl b] S (fun r S' => r = some (.inl (rck k a b)) ∧ S' = S) := by
  refine q_meth zoX1_reckon q_fos (Nat.le_of_ble_eq_true rfl) ?_
  intro AT step
  refine step 20 [] 0 _ _ _ ?_
  simp only [q_vcs, q_vcc, q_vl, q_vu, ↓reduceIte, Nat.reduceEqDiff, Bool.false_eq_true, q_isc, q_mk, q_msk, zbX1_reckon, q_pad, q_ent, q_get, q_put, q_nl, q_w, List.cons_append, List.nil_append, q_aks, q_als, Nat.reduceAdd, Nat.reduceLeDiff, Nat.zero_le, true_and, and_true, Option.some.injEq, Sum.inl.injEq, Sum.inr.injEq, true_or, or_true, and_self, q_sw]
  have hk2 : k = 2 ∨ k = 3 ∨ k = 4 ∨ k = 5 ∨ k = 6 ∨ k = 7 ∨ k = 8 := by omega
  rcases hk2 with rfl | rfl | rfl | rfl | rfl | rfl | rfl
  · exact ⟨fun _ => (by first | trivial | rfl | exact ⟨rfl, rfl⟩), fun h => absurd rfl h⟩
  · exact ⟨fun h => absurd h (by decide), fun _ => ⟨fun _ => (by first | trivial | rfl | exact ⟨rfl, rfl⟩), fun h => absurd rfl h⟩⟩
  · exact ⟨fun h => absurd h (by decide), fun _ => ⟨fun h => absurd h (by decide), fun _ => ⟨fun _ => (by first | trivial | rfl | exact ⟨rfl, rfl⟩), fun h => absurd rfl h⟩⟩⟩
  · refine ⟨fun h => absurd h (by decide), fun _ => ⟨fun h => absurd h (by decide), fun _ => ⟨fun h => absurd h (by decide), fun _ => ⟨fun _ => ?_, fun h => absurd rfl h⟩⟩⟩⟩
    refine ⟨fun h => ⟨h, ?_⟩, fun h => ?_⟩
    · show a / b = if b = 0 then 0 else a / b
      rw [if_neg h]
    · show 0 = if b = 0 then 0 else a / b
      rw [if_pos h]
  · refine ⟨fun h => absurd h (by decide), fun _ => ⟨fun h => absurd h (by decide), fun _ => ⟨fun h => absurd h (by decide), fun _ => ⟨fun h => absurd h (by decide), fun _ => ⟨fun _ => ?_, fun h => absurd rfl h⟩⟩⟩⟩⟩
    refine ⟨fun h => ⟨h, ?_⟩, fun h => ?_⟩
    · show a - a / b * b = if b = 0 then 0 else a - a / b * b
      rw [if_neg h]
    · show 0 = if b = 0 then 0 else a - a / b * b
      rw [if_pos h]
  · refine ⟨fun h => absurd h (by decide), fun _ => ⟨fun h => absurd h (by decide), fun _ => ⟨fun h => absurd h (by decide), fun _ => ⟨fun h => absurd h (by decide), fun _ => ⟨fun h => absurd h (by decide), fun _ => ⟨fun _ => ?_, fun h => absurd rfl h⟩⟩⟩⟩⟩⟩
    exact ⟨by decide, rfl⟩
  · refine ⟨fun h => absurd h (by decide), fun _ => ⟨fun h => absurd h (by decide), fun _ => ⟨fun h => absurd h (by decide), fun _ => ⟨fun h => absurd h (by decide), fun _ => ⟨fun h => absurd h (by decide), fun _ => ⟨fun h => absurd h (by decide), fun _ => ?_⟩⟩⟩⟩⟩⟩
    exact ⟨by decide, rfl⟩
def FC (S : qSt) (i : Nat) (F : Nat → Int32) : Prop := ∀ k, k < 8 → q_I S 15 i k = F k
/-- the values stand in their row, the last on top -/
def VS (S : qSt) (i : Nat) (st : List Int32) : Prop := ∀ j, j < st.length → q_I S 14 i j = st.reverse.getD j 0
theorem VS.push {S : qSt} {i : Nat} {st : List Int32} (h : VS S i st) (v : Int32) : VS (q_wI S 14 i st.length v) i (v :: st) := by
  intro j hj
  simp only [List.length_cons] at hj
  rw [q_I_wI, List.getD_eq_getElem?_getD, List.reverse_cons]
  by_cases e : j = st.length
  · subst e
    simp
  · rw [if_neg (by omega), h j (by omega), List.getD_eq_getElem?_getD, List.getElem?_append_left (by simp; omega)]
theorem VS.pop {S : qSt} {i : Nat} {st : List Int32} {v : Int32} (h : VS S i (v :: st)) : q_I S 14 i st.length = v ∧ VS S i st := by
  refine ⟨?_, fun j hj => ?_⟩
  · rw [h st.length (by simp), List.getD_eq_getElem?_getD, List.reverse_cons]
    simp
  · rw [h j (by simp; omega), List.getD_eq_getElem?_getD, List.reverse_cons, List.getElem?_append_left (by simp; omega), List.getD_eq_getElem?_getD]
theorem VS.fr {F : Nat → Nat → Prop} {S S' : qSt} {i : Nat} {st : List Int32} (h : VS S i st) (hf : fr F S S') (h1 : ¬ F 14 i) : VS S' i st := by
  unfold VS at *
  rw [(hf 14 i h1).1]
  exact h
set_option maxHeartbeats 1000000 in
theorem c_secondsTold (l : Launch) (S : qSt) {i : Nat} {c : List Tok} {F : Nat → Int32} (hw : lwf c) (hc : LC S i (c.map tkI)) (hF : FC S i F) : q_Met q_mt l 2 k_X1_secondsTold 1 [.inr (.inr (12, i))] S (fun r S' => r = some (.inl (nI (secn (lvv F c)))) ∧ fr (fun f j => f = 14 ∧ j = i) S S') := by
  obtain ⟨hok, hrp, hlen⟩ := hw
  refine q_meth zoX1_secondsTold q_fos (Nat.le_of_ble_eq_true rfl) ?_
  intro AT step
  have hL : ∀ (r : List Tok) (k : Nat) (st : List Int32) (S1 : qSt), c.drop k = r → k + r.length = c.length → rpd r st.length = some 1 → evs F r st = evs F c [] → st.length ≤ k → VS S1 i st → fr (fun f j => f = 14 ∧ j = i) S S1 → AT 1 [some (.inr (.inr (12, i))), some (.inl (nI st.length)), some (.inl (nI k)), none] [] S1 := by
    intro r
    induction r with
    | nil =>
      intro k st S1 hd hk hr he hs hv hf
      have hc1 : LC S1 i (c.map tkI) := hc.fr hf (by omega) (by omega)
      simp only [List.length_nil, Nat.add_zero] at hk
      refine step 40 [(1, [true, true, true, false])] 1 _ _ _ ?_
      simp only [q_vcs, q_vcc, q_vl, q_vu, ↓reduceIte, Nat.reduceEqDiff, Bool.false_eq_true, q_isc, q_mk, q_msk, zbX1_secondsTold, q_pad, q_ent, q_get, q_put, q_nl, q_w, List.cons_append, List.nil_append, q_aks, q_als, Nat.reduceAdd, Nat.reduceLeDiff, Nat.zero_le, true_and, and_true, Option.some.injEq, Sum.inl.injEq, Sum.inr.injEq, true_or, or_true, and_self, q_sw]
      rw [hc1.1, nI_leI (by simp; omega) (by omega)]
      refine ⟨fun _ => ⟨i_in (by decide) (by decide), ?_⟩, fun h => absurd (by simp; omega) h⟩
      refine ⟨by decide, by decide, ?_⟩
      have hst : st.length = 1 := Option.some.inj hr
      match st, hst with
      | [v], _ =>
        have hv0 := (VS.pop hv).1
        have e0 : q_I S1 14 i (Int32.toNatClampNeg 0) = v := hv0
        rw [e0, secn_c]
        refine ⟨?_, hf⟩
        unfold lvv
        rw [← he]
        rfl
    | cons t r ih =>
      intro k st S1 hd hk hr he hs hv hf
      have hc1 : LC S1 i (c.map tkI) := hc.fr hf (by omega) (by omega)
      have hF1 : FC S1 i F := by
        unfold FC at *
        rw [(hf 15 i (by omega)).1]
        exact hF
      simp only [List.length_cons] at hk
      have hkl : k < c.length := by omega
      have htk : c[k] = t ∧ c.drop (k + 1) = r := by
        rw [List.drop_eq_getElem_cons hkl] at hd
        exact ⟨(List.cons.inj hd).1, (List.cons.inj hd).2⟩
      have htm : t ∈ c := by rw [← htk.1]; exact List.getElem_mem hkl
      have hto := hok t htm
      have hcode : q_I S1 13 i k = tkI t := by
        rw [hc1.2.2 k (by simp; omega), List.getD_eq_getElem?_getD, List.getElem?_map, List.getElem?_eq_getElem hkl, htk.1]
        rfl
      unfold rpd at hr
      rw [show evs F (t :: r) st = evs F r (evt F t st) from rfl] at he
      refine step 40 [(1, [true, true, true, false])] 1 _ _ _ ?_
      simp only [q_vcs, q_vcc, q_vl, q_vu, ↓reduceIte, Nat.reduceEqDiff, Bool.false_eq_true, q_isc, q_mk, q_msk, zbX1_secondsTold, q_pad, q_ent, q_get, q_put, q_nl, q_w, List.cons_append, List.nil_append, q_aks, q_als, Nat.reduceAdd, Nat.reduceLeDiff, Nat.zero_le, true_and, and_true, Option.some.injEq, Sum.inl.injEq, Sum.inr.injEq, true_or, or_true, and_self, q_sw]
      rw [hc1.1, show Int32.ofNat 160 = nI 160 from rfl, nI_leI (by simp; omega) (by omega), nI_leI (by omega) (by omega), i_cl (by omega), hcode, nI_leI (by omega) (by omega), show (2 : Int32) = nI 2 from rfl, nI_ltI (by omega) (by omega), i_cl (by omega)]
      refine ⟨fun h => absurd h (by simp; omega), fun _ => ⟨by decide, fun h => absurd h (by omega), fun _ => ⟨i_in (by omega) (by decide), ?_⟩⟩⟩
      rcases hto with ⟨t1, t2⟩ | ⟨t1, t2⟩ | ⟨t1, t2⟩
      · have e1 : tkI t = nI t.2 := by unfold tkI; simp only [t1]
        rw [e1, show (1008 : Int32) = nI 1008 from rfl, show (1000 : Int32) = nI 1000 from rfl, nI_leI (by omega) (by omega), nI_leI (by omega) (by omega), nI_1, nI_1]
        refine ⟨fun h => absurd h (by omega), fun _ => ⟨by decide, fun h => absurd h (by omega), fun _ => ⟨fun h => absurd h (by omega), fun _ => ⟨i_in (by omega) (by decide), ?_⟩⟩⟩⟩
        rw [if_pos (by omega)] at hr
        have e2 : evt F t st = nI t.2 :: st := by unfold evt; simp only [t1]
        rw [e2] at he
        exact ih (k + 1) (nI t.2 :: st) _ htk.2 (by omega) hr he (by simp; omega) (hv.push _) (fr.wI hf ⟨rfl, rfl⟩)
      · have e1 : tkI t = nI (1000 + t.2) := by unfold tkI; simp only [t1]
        have e3 : nI (1000 + t.2) - 1000 = nI t.2 := by
          have := i_sub t.2 1000
          rwa [Nat.add_comm] at this
        rw [e1, e3, show (1008 : Int32) = nI 1008 from rfl, show (1000 : Int32) = nI 1000 from rfl, nI_leI (by omega) (by omega), nI_leI (by omega) (by omega), nI_1, nI_1, i_cl (by omega), hF1 t.2 t2]
        refine ⟨fun h => absurd h (by omega), fun _ => ⟨by decide, fun h => absurd h (by omega), fun _ => ⟨fun _ => ⟨i_in (by omega) (by decide), i_in (by omega) (by decide), ?_⟩, fun h => absurd (by omega) h⟩⟩⟩
        rw [if_pos (by omega)] at hr
        have e2 : evt F t st = F t.2 :: st := by unfold evt; simp only [t1]
        rw [e2] at he
        exact ih (k + 1) (F t.2 :: st) _ htk.2 (by omega) hr he (by simp; omega) (hv.push _) (fr.wI hf ⟨rfl, rfl⟩)
      · have e1 : tkI t = nI (1098 + t.1) := by
          unfold tkI
          split
          · omega
          · omega
          · rfl
        rw [if_neg (by omega)] at hr
        have h2 : 2 ≤ st.length := by
          by_cases h : 2 ≤ st.length
          · exact h
          · rw [if_neg h] at hr; cases hr
        rw [if_pos h2] at hr
        match st, h2 with
        | b :: a :: r9, _ =>
          have e2 : evt F t (b :: a :: r9) = rck t.1 a b :: r9 := by
            unfold evt
            split
            · omega
            · omega
            · rfl
          rw [e2] at he
          obtain ⟨vb, hv1⟩ := hv.pop
          obtain ⟨va, hv2⟩ := hv1.pop
          have l1 : (b :: a :: r9).length = r9.length + 2 := rfl
          have l2 : (a :: r9).length = r9.length + 1 := rfl
          rw [l2] at vb
          have x2 : nI (r9.length + 2) - 2 = nI r9.length := i_sub r9.length 2
          have x1 : nI (r9.length + 2) - 1 = nI (r9.length + 1) := i_m1 _
          have x3 : nI (r9.length + 2) + -1 = nI (r9.length + 1) := pk_m1 _
          simp only [List.length_cons] at hs
          have lt16 : r9.length + 2 < 160 := by omega
          rw [e1, show (1008 : Int32) = nI 1008 from rfl, nI_leI (by omega) (by omega), l1, show nI 2 = (2 : Int32) from rfl, x2, x1, i_cl (by omega), i_cl (by omega), va, vb]
          refine ⟨fun _ => ⟨fun h => absurd h (by omega), fun _ => ⟨i_in (by omega) (by decide), i_in (by omega) (by decide), ?_⟩⟩, fun h => absurd (by omega) h⟩
          refine q_u1 (by decide) (c_reckon l S1 a b ⟨t1, t2⟩) ?_
          rw [x3, nI_1]
          refine ⟨i_in (by omega) (by decide), ?_⟩
          exact ih (k + 1) (rck t.1 a b :: r9) _ htk.2 (by omega) hr he (by simp; omega) (hv2.push _) (fr.wI hf ⟨rfl, rfl⟩)
  refine step 40 [(1, [true, true, true, false])] 0 _ _ _ ?_
  simp only [q_vcs, q_vcc, q_vl, q_vu, ↓reduceIte, Nat.reduceEqDiff, Bool.false_eq_true, q_isc, q_mk, q_msk, zbX1_secondsTold, q_pad, q_ent, q_get, q_put, q_nl, q_w, List.cons_append, List.nil_append, q_aks, q_als, Nat.reduceAdd, Nat.reduceLeDiff, Nat.zero_le, true_and, and_true, Option.some.injEq, Sum.inl.injEq, Sum.inr.injEq, true_or, or_true, and_self, q_sw]
  exact hL c 0 [] S rfl (by omega) hrp rfl (by simp) (fun j hj => by simp at hj) fr.rf
