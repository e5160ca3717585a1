/-! The reference's questions: the search and its kin -/
def KK (S S' : qSt) : Prop := (∀ j, j < 46 ∨ j = 47 → q_I S' 40 0 j = q_I S 40 0 j) ∧ fr (fun f i => f = 40 ∨ f = 61 ∨ f = 62 ∨ (f = 65 ∧ 1 ≤ i ∧ i ≤ 3) ∨ (69 ≤ f ∧ f ≤ 72)) S S'
theorem KK.rf {S : qSt} : KK S S := ⟨fun _ _ => rfl, fr.rf⟩
theorem KK.tr {S S1 S2 : qSt} (h : KK S S1) (h2 : KK S1 S2) : KK S S2 := ⟨fun j hj => (h2.1 j hj).trans (h.1 j hj), h.2.tr h2.2⟩
theorem KQ.kk {S S1 : qSt} (h : KQ S S1) : KK S S1 := ⟨fun j hj => h.2 j (by omega), h.1.mn (fun f i q => by omega)⟩
theorem Ke.kk {S S1 : qSt} (h : Ke S S1) : KK S S1 := ⟨fun j hj => h.1 j (by omega) (by omega), h.2.mn (fun f i q => by omega)⟩
theorem KK.m {S S1 : qSt} (h : fr (Fm 1) S S1) : KK S S1 := ⟨fun j _ => congrFun (h 40 0 (fun q => by cases q.1)).1 j, h.mn fun f k q => Or.inr (Or.inr (Or.inr (Or.inl ⟨q.1, by have := q.2; omega⟩)))⟩
theorem KK.w {S S1 : qSt} {j : Nat} {v : Int32} (h : KK S S1) (hj : j = 46 ∨ (48 ≤ j)) : KK S (q_wI S1 40 0 j v) := ⟨fun i hi => by rw [q_I_wI, if_neg (by omega)]; exact h.1 i hi, fr.wI h.2 (Or.inl rfl)⟩
theorem RF_kk {S S' : qSt} {a : AS} (h : RF S a) (hk : KK S S') : RF S' a := by
  obtain ⟨h1, h2, h3, h4, h5, h6, h7, h8, h9⟩ := h
  obtain ⟨e0, hf⟩ := hk
  refine ⟨h1.fr hf (fun _ => by omega) (fun _ => by omega) (fun _ => by omega) (fun _ => by omega), ?_, ?_, ⟨?_, h4.2.1.fr hf (by omega), fun j hj => (h4.2.2 j hj).fr hf (by omega)⟩, ⟨?_, fun i hi => ?_⟩, ⟨?_, ?_⟩, ?_, ?_, ?_⟩
  · rcases h2 with ⟨e, q⟩ | ⟨l0, q1, q2⟩
    · exact Or.inl ⟨e, by rw [e0 19 (by omega)]; exact q⟩
    · exact Or.inr ⟨l0, by rw [e0 19 (by omega)]; exact q1, fun k hk' => by rw [(hf 54 k (by omega)).1]; exact q2 k hk'⟩
  · obtain ⟨m, w, o, ⟨q1, q2, q3⟩, k2⟩ := h3
    exact ⟨m, w, o, ⟨by rw [e0 33 (by omega)]; exact q1, q2, fun z hz => by rw [(hf 58 z (by omega)).1]; exact q3 z hz⟩, k2⟩
  · rw [e0 34 (by omega)]; exact h4.1
  · rw [e0 36 (by omega)]; exact h5.1
  · unfold MI
    rw [(hf 68 i (by omega)).1]
    exact h5.2 i hi
  · rw [e0 1 (by omega)]; exact h6.1
  · rw [(hf 41 0 (by omega)).1]; exact h6.2
  · rw [e0 3 (by omega)]; exact h7
  · unfold RF8
    rw [e0 35 (by omega), (hf 42 0 (by omega)).1]
    exact h8
  · rw [e0 47 (by omega)]; exact h9
theorem RA_k {l : Launch} {k : Nat} {as : List qV} {S : qSt} {v : Int32} {a : AS} {d : Nat} (hd : d ≤ 60) (hR : RF S a) (h : q_Met q_mt l d k 1 as S (fun x S' => x = some (.inl v) ∧ KK (q_wI S 40 0 0 0) S')) : RA l k as S (.inr v, a) := RA_r hd (h.post (fun r S' q => ⟨q.1, by rw [q.2.1 0 (by omega), q_I_wI, if_pos ⟨rfl, rfl, rfl⟩], RF_kk hR.th q.2, fth.tr (q.2.2.mn (fun f i z => by show 40 ≤ f ∧ f < 80; omega))⟩))
theorem c_mfewA (l : Launch) {S : qSt} {Y : YD} {i0 w : Nat} {g : Option Nat} {P : Nat → List Nat} (hY : y_ok Y) (hM : MY S Y) (hw4 : w ≤ 4) (hP : p_ok Y P) (hw : fitW Y w P) (hi0 : i0 < 2) (hR : RW1 S i0 P) (hwd : q_I S 40 0 47 = nI w) (hgc : ∀ c, g = some c → inn P c) : q_Met q_mt l 4 k_X11_fewest 1 [.inr (.inr (40, 0)), .inr (.inr (65, i0)), .inl (oI g)] S (fun v S' => v = some (.inl (oI (fewA Y w g P).1)) ∧ (∀ F, (fewA Y w g P).1 = some (F + 1) → q_I S' 40 0 46 = nI (fewA Y w g P).2) ∧ (∀ F, (fewA Y w g P).1 = some F → F < 2 ^ 20) ∧ KQ S S') := by
  refine (c_mfewest l S hY hw4 hM hP hw hi0 hR hwd hgc).post (fun v S' h => ?_)
  obtain ⟨r, f, h1, h2, h3, h4, h5⟩ := h
  obtain ⟨e1, e2⟩ := few_u h2
  refine ⟨by rw [← e1]; exact h1, fun F hF => ?_, fun F hF => h4 F (by rw [e1]; exact hF), h5⟩
  rw [← e1] at hF
  rw [← e2 F hF]
  exact h3 F hF
theorem nxt_ln {Y : YD} {P : Nat → List Nat} : (ordL (soon Y) (Y 1 0)).find? (fun c => (lnof P c).isSome) = nxt Y P := by
  unfold nxt
  congr 1
  funext c
  have := @inn_isin P c
  unfold inn at this
  cases h : isin P c with
  | true => exact this.mp h
  | false =>
    cases h2 : (lnof P c).isSome with
    | false => rfl
    | true => rw [this.mpr h2] at h; cases h
theorem nI_z {n : Nat} (h : n < 2 ^ 31) : nI n = 0 ↔ n = 0 := nI_eq h (by decide)
theorem oI_m1 {o : Option Nat} (h : ∀ F, o = some F → F < 2 ^ 31) : oI o = -1 ↔ o = none := by
  cases o with
  | none => exact ⟨fun _ => rfl, fun _ => rfl⟩
  | some F => exact ⟨fun q => absurd q (i_ne1 (n := F) (h F rfl)), fun q => by cases q⟩
theorem r_next (l : Launch) {S : qSt} {a : AS} {B : Nat} (hR : RF S a) (hO : OKA a B) (y : Int32) : RA l k_X11_next [.inr (.inr (40, 0)), .inl y] S (sp_next a y) := by
  unfold sp_next
  by_cases h2 : 0 ≤ y ∧ y ≤ 1
  · rw [spI_2 h2]
    obtain ⟨n, hn, rfl⟩ := i_rng (m := 1) (by decide) h2.1 h2.2
    rw [i_cl (by omega)]
    have hR0 := hR.th (v := 0)
    have gv := hO.v
    have hM := hR0.1
    have hV := hR0.2.2.2.1.2.1
    have h3 := hO.1.1
    have h6 := hO.1.2.1
    refine RA_s (d := 20) (by decide) hR ?_
    refine q_meth zoX11_next q_fos (Nat.le_of_ble_eq_true rfl) ?_
    intro AT step
    have kc : AT 3 [some (.inr (.inr (40, 0))), some (.inl (nI n)), none] [] (q_wI S 40 0 0 0) := by
      refine step 40 [(3, [true, true, true])] 3 _ _ _ ?_
      simp only [q_vcs, q_vcc, q_vl, q_vu, ↓reduceIte, Nat.reduceEqDiff, Bool.false_eq_true, q_isc, q_mk, q_msk, zbX11_next, q_pad, q_ent, q_get, q_put, q_nl, q_w, List.cons_append, List.nil_append, q_aks, q_als, Nat.reduceAdd, Nat.reduceLeDiff, Nat.zero_le, true_and, and_true, Option.some.injEq, Sum.inl.injEq, Sum.inr.injEq, true_or, or_true, and_self, q_sw]
      refine q_u1 (by decide) (c_mearliest l _ hO.1 hM gv.1 hV.1) ?_
      rw [nxt_ln, nI_z (n := n) (by omega)]
      unfold nxA
      cases hx : nxt (aY a) (aV a).1 with
      | none => exact ⟨fun _ => ⟨rfl, rfl⟩, fun _ => ⟨fun q => absurd rfl q, fun _ => ⟨rfl, rfl⟩⟩⟩
      | some c =>
        have hi := ((nxt_fst gv.1).mp hx).1
        have hc := inn_lt gv.1 hi
        obtain ⟨j, hj⟩ := inn_ex hi
        obtain ⟨t, ht⟩ := ahd_split hj
        have hj3 := (lnof_lt hj).1
        have hd := p_nd gv.1 hj3
        have hnd : (ahd (aV a).1 c).Nodup := ahd_nd gv.1 c
        have hk := rkw_split (by rw [← ht]; exact hd)
        have hl9 := (st_row gv.1.1 hj3).1
        have hl8 : ((aV a).1 j).length = (ahd (aV a).1 c).length + t.length + 1 := by rw [ht]; simp; omega
        refine ⟨fun e => ?_, fun e => ⟨fun _ => ?_, fun q => absurd q (i_ne1 (n := c) (by omega))⟩⟩
        · dsimp only; rw [if_pos e]; exact ⟨rfl, rfl⟩
        · dsimp only
          rw [if_neg e]
          refine q_u1 (by decide) (c_mlaneOf l _ hO.1 hM gv.1 hV.1 (c := c) (by omega)) ?_
          rw [hj, show oI (some j) = nI j from rfl, Int32.zero_add, i_cl (by omega), (hV.1 j hj3).1]
          refine ⟨i_in (by omega) (by decide), ?_⟩
          refine q_u1 (by decide) (c_mrankOf l _ hO.1 hM gv.1 hV.1 hj) ?_
          rw [pcn_bo hnd (ahd_lt gv.1.1 c), hl8, show rkw ((aV a).1 j) c = t.length by rw [ht]; exact hk.1, i_m1, i_sub]
          exact ⟨rfl, rfl⟩
    refine step 40 [(3, [true, true, true])] 0 _ _ _ ?_
    simp only [q_vcs, q_vcc, q_vl, q_vu, ↓reduceIte, Nat.reduceEqDiff, Bool.false_eq_true, q_isc, q_mk, q_msk, zbX11_next, q_pad, q_ent, q_get, q_put, q_nl, q_w, List.cons_append, List.nil_append, q_aks, q_als, Nat.reduceAdd, Nat.reduceLeDiff, Nat.zero_le, true_and, and_true, Option.some.injEq, Sum.inl.injEq, Sum.inr.injEq, true_or, or_true, and_self, q_sw]
    refine q_u1 (by decide) (c_min l _ (nI n) 0 1) ?_
    rw [decide_eq_true h2]
    first | refine ⟨fun _ => ?_, fun q => absurd q (by decide)⟩ | refine ⟨fun q => absurd q (by decide), fun _ => ?_⟩
    refine q_u1 (by decide) (c_mbN l S (w := 1) (r := 1) (by decide) (by decide)) ?_
    first | refine ⟨fun _ => ?_, fun q => absurd q (by decide)⟩ | refine ⟨fun q => absurd q (by decide), fun _ => ?_⟩
    exact kc
  · rw [spI_1 h2]
    refine RA_i (d := 20) (by decide) hR ?_
    refine q_meth zoX11_next q_fos (Nat.le_of_ble_eq_true rfl) ?_
    intro AT step
    refine step 40 [(3, [true, true, true])] 0 _ _ _ ?_
    simp only [q_vcs, q_vcc, q_vl, q_vu, ↓reduceIte, Nat.reduceEqDiff, Bool.false_eq_true, q_isc, q_mk, q_msk, zbX11_next, q_pad, q_ent, q_get, q_put, q_nl, q_w, List.cons_append, List.nil_append, q_aks, q_als, Nat.reduceAdd, Nat.reduceLeDiff, Nat.zero_le, true_and, and_true, Option.some.injEq, Sum.inl.injEq, Sum.inr.injEq, true_or, or_true, and_self, q_sw]
    refine q_u1 (by decide) (c_min l _ y 0 1) ?_
    rw [decide_eq_false (fun z => h2 z)]
    first | refine ⟨fun _ => ?_, fun q => absurd q (by decide)⟩ | refine ⟨fun q => absurd q (by decide), fun _ => ?_⟩
    refine q_u1 (by decide) (c_mbY l S (w := 1) (r := 1) (by decide) (by decide)) ?_
    first | refine ⟨fun _ => ?_, fun q => absurd q (by decide)⟩ | refine ⟨fun q => absurd q (by decide), fun _ => ?_⟩
    first | rfl | exact ⟨rfl, rfl⟩ | trivial
theorem r_frees (l : Launch) {S : qSt} {a : AS} {B : Nat} (hR : RF S a) (hO : OKA a B) (x y : Int32) : RA l k_X11_frees [.inr (.inr (40, 0)), .inl x, .inl y] S (sp_frees a x y) := by
  unfold sp_frees
  by_cases h1 : isCr a x
  · by_cases h2 : 0 ≤ y ∧ y ≤ 1
    · rw [spK_3 h1 h2]
      obtain ⟨k, hk, rfl⟩ := isCr_ex hO h1
      obtain ⟨n, hn, rfl⟩ := i_rng (m := 1) (by decide) h2.1 h2.2
      rw [i_cl (by have := hO.1.2.1; omega), i_cl (by omega)]
      have hR0 := hR.th (v := 0)
      have gv := hO.v
      have hM := hR0.1
      have hV := hR0.2.2.2.1.2.1
      have h3 := hO.1.1
      have h6 := hO.1.2.1
      refine RA_k (d := 20) (by decide) hR ?_
      refine q_meth zoX11_frees q_fos (Nat.le_of_ble_eq_true rfl) ?_
      intro AT step
      have kc : AT 6 [some (.inr (.inr (40, 0))), some (.inl (nI k)), some (.inl (nI n)), none] [] (q_wI S 40 0 0 0) := by
        refine step 40 [(6, [true, true, true, true])] 6 _ _ _ ?_
        simp only [q_vcs, q_vcc, q_vl, q_vu, ↓reduceIte, Nat.reduceEqDiff, Bool.false_eq_true, q_isc, q_mk, q_msk, zbX11_frees, q_pad, q_ent, q_get, q_put, q_nl, q_w, List.cons_append, List.nil_append, q_aks, q_als, Nat.reduceAdd, Nat.reduceLeDiff, Nat.zero_le, true_and, and_true, Option.some.injEq, Sum.inl.injEq, Sum.inr.injEq, true_or, or_true, and_self, q_sw]
        refine q_u1 (by decide) (c_mlaneOf l _ hO.1 hM gv.1 hV.1 (c := k) (by omega)) ?_
        unfold frA
        cases hj : lnof (aV a).1 k with
        | none => exact ⟨fun q => absurd rfl q, fun _ => ⟨rfl, KK.rf⟩⟩
        | some j =>
          have := (lnof_lt hj).1
          refine ⟨fun _ => ?_, fun q => absurd q (i_ne1 (n := j) (by omega))⟩
          refine ⟨_, _, (by decide : 4 < 20), c_mfewA l (g := some k) (w := 0) hO.1 hM (by decide) gv.1 (fitW_of gv.2.1) (by decide) hV.1 hR0.2.2.2.2.2.2.2.2 (fun c e => by cases e; unfold inn; rw [hj]; rfl), fun v S1 h => ?_⟩
          obtain ⟨g1, g2, g3, g4⟩ := h
          cases g1
          rw [show (0 : Int32) = nI 0 from rfl, nI_eq (by omega) (by decide)]
          dsimp only
          refine ⟨fun e => ?_, fun e => ?_⟩
          · rw [if_neg e]
            unfold frV
            cases hF : (fewA (aY a) 0 (some k) (aV a).1).1 with
            | none => exact ⟨fun q => absurd q (by decide), fun _ => ⟨rfl, g4.kk⟩⟩
            | some F =>
              have hF2 := g3 F hF
              rw [show oI (some F) = nI F from rfl, show (1 : Int32) = nI 1 from rfl, nI_leI (by omega) (by omega)]
              cases F with
              | zero => exact ⟨fun q => absurd q (by omega), fun _ => ⟨rfl, g4.kk⟩⟩
              | succ F => exact ⟨fun _ => ⟨by rw [g2 F hF], g4.kk⟩, fun q => absurd (by omega) q⟩
          · rw [if_pos e]; exact ⟨rfl, g4.kk⟩
      refine step 40 [(6, [true, true, true, true])] 0 _ _ _ ?_
      simp only [q_vcs, q_vcc, q_vl, q_vu, ↓reduceIte, Nat.reduceEqDiff, Bool.false_eq_true, q_isc, q_mk, q_msk, zbX11_frees, q_pad, q_ent, q_get, q_put, q_nl, q_w, List.cons_append, List.nil_append, q_aks, q_als, Nat.reduceAdd, Nat.reduceLeDiff, Nat.zero_le, true_and, and_true, Option.some.injEq, Sum.inl.injEq, Sum.inr.injEq, true_or, or_true, and_self, q_sw]
      refine q_u1 (by decide) (c_misCar l _ (hR.th (v := 0)).1 _) ?_
      rw [show decide (0 ≤ (nI k) ∧ (nI k) ≤ nI (aY a 1 0) - 1) = true from decide_eq_true h1]
      first | refine ⟨fun _ => ?_, fun q => absurd q (by decide)⟩ | refine ⟨fun q => absurd q (by decide), fun _ => ?_⟩
      refine q_u1 (by decide) (c_mbN l S (w := 1) (r := 0) (by decide) (by decide)) ?_
      first | refine ⟨fun _ => ?_, fun q => absurd q (by decide)⟩ | refine ⟨fun q => absurd q (by decide), fun _ => ?_⟩
      refine q_u1 (by decide) (c_min l _ (nI n) 0 1) ?_
      rw [decide_eq_true h2]
      first | refine ⟨fun _ => ?_, fun q => absurd q (by decide)⟩ | refine ⟨fun q => absurd q (by decide), fun _ => ?_⟩
      refine q_u1 (by decide) (c_mbN l S (w := 2) (r := 1) (by decide) (by decide)) ?_
      first | refine ⟨fun _ => ?_, fun q => absurd q (by decide)⟩ | refine ⟨fun q => absurd q (by decide), fun _ => ?_⟩
      exact kc
    · rw [spK_2 h1 h2]
      refine RA_i (d := 20) (by decide) hR ?_
      refine q_meth zoX11_frees q_fos (Nat.le_of_ble_eq_true rfl) ?_
      intro AT step
      refine step 40 [(6, [true, true, true, true])] 0 _ _ _ ?_
      simp only [q_vcs, q_vcc, q_vl, q_vu, ↓reduceIte, Nat.reduceEqDiff, Bool.false_eq_true, q_isc, q_mk, q_msk, zbX11_frees, q_pad, q_ent, q_get, q_put, q_nl, q_w, List.cons_append, List.nil_append, q_aks, q_als, Nat.reduceAdd, Nat.reduceLeDiff, Nat.zero_le, true_and, and_true, Option.some.injEq, Sum.inl.injEq, Sum.inr.injEq, true_or, or_true, and_self, q_sw]
      refine q_u1 (by decide) (c_misCar l _ (hR.th (v := 0)).1 _) ?_
      rw [show decide (0 ≤ x ∧ x ≤ nI (aY a 1 0) - 1) = true from decide_eq_true h1]
      first | refine ⟨fun _ => ?_, fun q => absurd q (by decide)⟩ | refine ⟨fun q => absurd q (by decide), fun _ => ?_⟩
      refine q_u1 (by decide) (c_mbN l S (w := 1) (r := 0) (by decide) (by decide)) ?_
      first | refine ⟨fun _ => ?_, fun q => absurd q (by decide)⟩ | refine ⟨fun q => absurd q (by decide), fun _ => ?_⟩
      refine q_u1 (by decide) (c_min l _ y 0 1) ?_
      rw [decide_eq_false (fun z => h2 z)]
      first | refine ⟨fun _ => ?_, fun q => absurd q (by decide)⟩ | refine ⟨fun q => absurd q (by decide), fun _ => ?_⟩
      refine q_u1 (by decide) (c_mbY l S (w := 2) (r := 1) (by decide) (by decide)) ?_
      first | refine ⟨fun _ => ?_, fun q => absurd q (by decide)⟩ | refine ⟨fun q => absurd q (by decide), fun _ => ?_⟩
      first | rfl | exact ⟨rfl, rfl⟩ | trivial
  · rw [spK_1 h1]
    refine RA_n (d := 20) (by decide) hR ?_
    refine q_meth zoX11_frees q_fos (Nat.le_of_ble_eq_true rfl) ?_
    intro AT step
    refine step 40 [(6, [true, true, true, true])] 0 _ _ _ ?_
    simp only [q_vcs, q_vcc, q_vl, q_vu, ↓reduceIte, Nat.reduceEqDiff, Bool.false_eq_true, q_isc, q_mk, q_msk, zbX11_frees, q_pad, q_ent, q_get, q_put, q_nl, q_w, List.cons_append, List.nil_append, q_aks, q_als, Nat.reduceAdd, Nat.reduceLeDiff, Nat.zero_le, true_and, and_true, Option.some.injEq, Sum.inl.injEq, Sum.inr.injEq, true_or, or_true, and_self, q_sw]
    refine q_u1 (by decide) (c_misCar l _ (hR.th (v := 0)).1 _) ?_
    rw [show decide (0 ≤ x ∧ x ≤ nI (aY a 1 0) - 1) = false from decide_eq_false h1]
    first | refine ⟨fun _ => ?_, fun q => absurd q (by decide)⟩ | refine ⟨fun q => absurd q (by decide), fun _ => ?_⟩
    refine q_u1 (by decide) (c_mbY l S (w := 1) (r := 0) (by decide) (by decide)) ?_
    first | refine ⟨fun _ => ?_, fun q => absurd q (by decide)⟩ | refine ⟨fun q => absurd q (by decide), fun _ => ?_⟩
    first | rfl | exact ⟨rfl, rfl⟩ | trivial
theorem r_morning (l : Launch) {S : qSt} {a : AS} {B : Nat} (hR : RF S a) (hO : OKA a B) (y : Int32) : RA l k_X11_morning [.inr (.inr (40, 0)), .inl y] S (sp_morn a y) := by
  unfold sp_morn
  by_cases h2 : 0 ≤ y ∧ y ≤ 1
  · rw [spI_2 h2]
    obtain ⟨n, hn, rfl⟩ := i_rng (m := 1) (by decide) h2.1 h2.2
    rw [i_cl (by omega)]
    have hR0 := hR.th (v := 0)
    have gv := hO.v
    have hM := hR0.1
    have hV := hR0.2.2.2.1.2.1
    have h3 := hO.1.1
    have h6 := hO.1.2.1
    refine RA_k (d := 20) (by decide) hR ?_
    refine q_meth zoX11_morning q_fos (Nat.le_of_ble_eq_true rfl) ?_
    intro AT step
    have kc : AT 3 [some (.inr (.inr (40, 0))), some (.inl (nI n)), none] [] (q_wI S 40 0 0 0) := by
      refine step 40 [(3, [true, true, true])] 3 _ _ _ ?_
      simp only [q_vcs, q_vcc, q_vl, q_vu, ↓reduceIte, Nat.reduceEqDiff, Bool.false_eq_true, q_isc, q_mk, q_msk, zbX11_morning, q_pad, q_ent, q_get, q_put, q_nl, q_w, List.cons_append, List.nil_append, q_aks, q_als, Nat.reduceAdd, Nat.reduceLeDiff, Nat.zero_le, true_and, and_true, Option.some.injEq, Sum.inl.injEq, Sum.inr.injEq, true_or, or_true, and_self, q_sw]
      refine ⟨_, _, (by decide : 4 < 20), c_mfewA l (g := none) (w := 0) hO.1 hM (by decide) gv.1 (fitW_of gv.2.1) (by decide) hV.1 hR0.2.2.2.2.2.2.2.2 (fun c e => by cases e), fun v S1 h => ?_⟩
      obtain ⟨g1, g2, g3, g4⟩ := h
      cases g1
      rw [show (0 : Int32) = nI 0 from rfl, nI_eq (by omega) (by decide)]
      refine ⟨fun e => ?_, fun e => ?_⟩
      · rw [if_pos e]; exact ⟨rfl, g4.kk⟩
      · rw [if_neg e]
        unfold mrV
        cases hF : (fewA (aY a) 0 none (aV a).1).1 with
        | none => exact ⟨fun q => absurd rfl q, fun _ => ⟨rfl, g4.kk⟩⟩
        | some F =>
          have hF2 := g3 F hF
          refine ⟨fun _ => ?_, fun q => absurd q (i_ne1 (n := F) (by omega))⟩
          rw [show oI (some F) = nI F from rfl, nI_eq (by omega) (by omega)]
          cases F with
          | zero => exact ⟨fun q => absurd rfl q, fun _ => ⟨rfl, g4.kk⟩⟩
          | succ F => exact ⟨fun _ => ⟨by rw [g2 F hF], g4.kk⟩, fun q => by omega⟩
    refine step 40 [(3, [true, true, true])] 0 _ _ _ ?_
    simp only [q_vcs, q_vcc, q_vl, q_vu, ↓reduceIte, Nat.reduceEqDiff, Bool.false_eq_true, q_isc, q_mk, q_msk, zbX11_morning, q_pad, q_ent, q_get, q_put, q_nl, q_w, List.cons_append, List.nil_append, q_aks, q_als, Nat.reduceAdd, Nat.reduceLeDiff, Nat.zero_le, true_and, and_true, Option.some.injEq, Sum.inl.injEq, Sum.inr.injEq, true_or, or_true, and_self, q_sw]
    refine q_u1 (by decide) (c_min l _ (nI n) 0 1) ?_
    rw [decide_eq_true h2]
    first | refine ⟨fun _ => ?_, fun q => absurd q (by decide)⟩ | refine ⟨fun q => absurd q (by decide), fun _ => ?_⟩
    refine q_u1 (by decide) (c_mbN l S (w := 1) (r := 1) (by decide) (by decide)) ?_
    first | refine ⟨fun _ => ?_, fun q => absurd q (by decide)⟩ | refine ⟨fun q => absurd q (by decide), fun _ => ?_⟩
    exact kc
  · rw [spI_1 h2]
    refine RA_i (d := 20) (by decide) hR ?_
    refine q_meth zoX11_morning q_fos (Nat.le_of_ble_eq_true rfl) ?_
    intro AT step
    refine step 40 [(3, [true, true, true])] 0 _ _ _ ?_
    simp only [q_vcs, q_vcc, q_vl, q_vu, ↓reduceIte, Nat.reduceEqDiff, Bool.false_eq_true, q_isc, q_mk, q_msk, zbX11_morning, q_pad, q_ent, q_get, q_put, q_nl, q_w, List.cons_append, List.nil_append, q_aks, q_als, Nat.reduceAdd, Nat.reduceLeDiff, Nat.zero_le, true_and, and_true, Option.some.injEq, Sum.inl.injEq, Sum.inr.injEq, true_or, or_true, and_self, q_sw]
    refine q_u1 (by decide) (c_min l _ y 0 1) ?_
    rw [decide_eq_false (fun z => h2 z)]
    first | refine ⟨fun _ => ?_, fun q => absurd q (by decide)⟩ | refine ⟨fun q => absurd q (by decide), fun _ => ?_⟩
    refine q_u1 (by decide) (c_mbY l S (w := 1) (r := 1) (by decide) (by decide)) ?_
    first | refine ⟨fun _ => ?_, fun q => absurd q (by decide)⟩ | refine ⟨fun q => absurd q (by decide), fun _ => ?_⟩
    first | rfl | exact ⟨rfl, rfl⟩ | trivial
theorem r_corner (l : Launch) {S : qSt} {a : AS} {B : Nat} (hR : RF S a) (hO : OKA a B) (x : Int32) : RA l k_X11_corner [.inr (.inr (40, 0)), .inl x] S (sp_corn a x) := by
  unfold sp_corn
  by_cases h1 : isCr a x
  · rw [spK_3 h1 trivial]
    obtain ⟨k, hk, rfl⟩ := isCr_ex hO h1
    rw [i_cl (by have := hO.1.2.1; omega)]
    have hR0 := hR.th (v := 0)
    have gv := hO.v
    have hM := hR0.1
    have hV := hR0.2.2.2.1.2.1
    have h3 := hO.1.1
    have h6 := hO.1.2.1
    refine RA_k (d := 20) (by decide) hR ?_
    refine q_meth zoX11_corner q_fos (Nat.le_of_ble_eq_true rfl) ?_
    intro AT step
    have kc : AT 3 [some (.inr (.inr (40, 0))), some (.inl (nI k)), none] [] (q_wI S 40 0 0 0) := by
      refine step 40 [(3, [true, true, true])] 3 _ _ _ ?_
      simp only [q_vcs, q_vcc, q_vl, q_vu, ↓reduceIte, Nat.reduceEqDiff, Bool.false_eq_true, q_isc, q_mk, q_msk, zbX11_corner, q_pad, q_ent, q_get, q_put, q_nl, q_w, List.cons_append, List.nil_append, q_aks, q_als, Nat.reduceAdd, Nat.reduceLeDiff, Nat.zero_le, true_and, and_true, Option.some.injEq, Sum.inl.injEq, Sum.inr.injEq, true_or, or_true, and_self, q_sw]
      refine q_u1 (by decide) (c_mlaneOf l _ hO.1 hM gv.1 hV.1 (c := k) (by omega)) ?_
      unfold cnA
      cases hj : lnof (aV a).1 k with
      | none => exact ⟨fun q => absurd rfl q, fun _ => ⟨rfl, KK.rf⟩⟩
      | some j =>
        have := (lnof_lt hj).1
        refine ⟨fun _ => ?_, fun q => absurd q (i_ne1 (n := j) (by omega))⟩
        refine ⟨_, _, (by decide : 4 < 20), c_mfewA l (g := none) (w := 0) hO.1 hM (by decide) gv.1 (fitW_of gv.2.1) (by decide) hV.1 hR0.2.2.2.2.2.2.2.2 (fun c e => by cases e), fun v S1 h => ?_⟩
        obtain ⟨g1, g2, g3, g4⟩ := h
        cases g1
        dsimp only
        cases hF : (fewA (aY a) 0 none (aV a).1).1 with
        | none => exact ⟨fun q => absurd rfl q, fun _ => ⟨rfl, g4.kk⟩⟩
        | some F =>
          have hF2 := g3 F hF
          refine ⟨fun _ => ?_, fun q => absurd q (i_ne1 (n := F) (by omega))⟩
          have hR1 := RF_kk hR0 g4.kk
          refine ⟨_, _, (by decide : 0 < 20), c_mcopies l S1 (i := 0) (k := 1) (by decide), fun S2 h => ?_⟩
          obtain ⟨c1, c2⟩ := h
          have hW : RW1 S2 1 (aV a).1 := RW1_cp gv.1.1 hR1.2.2.2.1.2.1.1 c1
          have hR2 := RF_kk hR1 (KK.m c2)
          obtain ⟨A, t, e1, e2, e3, e4⟩ := erase_ok gv.1 hj
          refine ⟨_, _, (by decide : 3 < 20), c_mtakesOut l S2 hO.1 hR2.1 gv.1 hW hj e1, fun S3 h => ?_⟩
          obtain ⟨d1, d2, d3⟩ := h
          have hR3 := RF_kk hR2 (KK.m d3)
          refine ⟨_, _, (by decide : 4 < 20), c_mfewA l (g := none) (w := 0) hO.1 hR3.1 (by decide) e3 (e4 0 (fitW_of gv.2.1)) (by decide) d1 hR3.2.2.2.2.2.2.2.2 (fun c e => by cases e), fun v S4 h => ?_⟩
          obtain ⟨f1, f2, f3, f4⟩ := h
          cases f1
          rw [e2]
          exact ⟨rfl, ((g4.kk.tr (KK.m c2)).tr (KK.m d3)).tr f4.kk⟩
    refine step 40 [(3, [true, true, true])] 0 _ _ _ ?_
    simp only [q_vcs, q_vcc, q_vl, q_vu, ↓reduceIte, Nat.reduceEqDiff, Bool.false_eq_true, q_isc, q_mk, q_msk, zbX11_corner, q_pad, q_ent, q_get, q_put, q_nl, q_w, List.cons_append, List.nil_append, q_aks, q_als, Nat.reduceAdd, Nat.reduceLeDiff, Nat.zero_le, true_and, and_true, Option.some.injEq, Sum.inl.injEq, Sum.inr.injEq, true_or, or_true, and_self, q_sw]
    refine q_u1 (by decide) (c_misCar l _ (hR.th (v := 0)).1 _) ?_
    rw [show decide (0 ≤ (nI k) ∧ (nI k) ≤ nI (aY a 1 0) - 1) = true from decide_eq_true h1]
    first | refine ⟨fun _ => ?_, fun q => absurd q (by decide)⟩ | refine ⟨fun q => absurd q (by decide), fun _ => ?_⟩
    refine q_u1 (by decide) (c_mbN l S (w := 1) (r := 0) (by decide) (by decide)) ?_
    first | refine ⟨fun _ => ?_, fun q => absurd q (by decide)⟩ | refine ⟨fun q => absurd q (by decide), fun _ => ?_⟩
    exact kc
  · rw [spK_1 h1]
    refine RA_n (d := 20) (by decide) hR ?_
    refine q_meth zoX11_corner q_fos (Nat.le_of_ble_eq_true rfl) ?_
    intro AT step
    refine step 40 [(3, [true, true, true])] 0 _ _ _ ?_
    simp only [q_vcs, q_vcc, q_vl, q_vu, ↓reduceIte, Nat.reduceEqDiff, Bool.false_eq_true, q_isc, q_mk, q_msk, zbX11_corner, q_pad, q_ent, q_get, q_put, q_nl, q_w, List.cons_append, List.nil_append, q_aks, q_als, Nat.reduceAdd, Nat.reduceLeDiff, Nat.zero_le, true_and, and_true, Option.some.injEq, Sum.inl.injEq, Sum.inr.injEq, true_or, or_true, and_self, q_sw]
    refine q_u1 (by decide) (c_misCar l _ (hR.th (v := 0)).1 _) ?_
    rw [show decide (0 ≤ x ∧ x ≤ nI (aY a 1 0) - 1) = false from decide_eq_false h1]
    first | refine ⟨fun _ => ?_, fun q => absurd q (by decide)⟩ | refine ⟨fun q => absurd q (by decide), fun _ => ?_⟩
    refine q_u1 (by decide) (c_mbY l S (w := 1) (r := 0) (by decide) (by decide)) ?_
    first | refine ⟨fun _ => ?_, fun q => absurd q (by decide)⟩ | refine ⟨fun q => absurd q (by decide), fun _ => ?_⟩
    first | rfl | exact ⟨rfl, rfl⟩ | trivial
