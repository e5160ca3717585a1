/-! The reference's commands: spots -/
theorem pcn_set {ln p : Nat} (hp : p < 12) (h : ln.testBit p = false) : pcn (ln ||| 2 ^ p) = pcn ln + 1 := by
  have key : ∀ N, fa_cnt (fun i => (ln ||| 2 ^ p).testBit i) N = fa_cnt (fun i => ln.testBit i) N + (if p < N then 1 else 0) := by
    intro N
    induction N with
    | zero => rfl
    | succ N ih =>
      rw [fa_cnt, fa_cnt, ih, fb_bit_set]
      by_cases e : N = p
      · subst e
        rw [h, if_neg (Nat.lt_irrefl _), if_pos (Nat.lt_succ_self _)]
        simp
      · have : decide (N = p) = false := decide_eq_false e
        rw [this, Bool.or_false]
        by_cases c : p < N
        · have e1 : (if p < N then 1 else 0 : Nat) = 1 := if_pos c
          have e2 : (if p < N + 1 then 1 else 0 : Nat) = 1 := if_pos (by omega)
          rw [e1, e2]; omega
        · have e1 : (if p < N then 1 else 0 : Nat) = 0 := if_neg c
          have e2 : (if p < N + 1 then 1 else 0 : Nat) = 0 := if_neg (by omega)
          rw [e1, e2]; omega
  unfold pcn
  rw [key 12, if_pos hp]
theorem pcn_le (ln : Nat) : pcn ln ≤ 12 := by
  have key : ∀ (p : Nat → Bool) N, fa_cnt p N ≤ N := by
    intro p N
    induction N with
    | zero => exact Nat.le_refl _
    | succ N ih => rw [fa_cnt]; split <;> omega
  exact key _ 12
theorem obit {oi v p i : Nat} (hv : v < 2) : (oi ||| v * 2 ^ p).testBit i = (oi.testBit i || (decide (i = p) && decide (v = 1))) := by
  have : v = 0 ∨ v = 1 := by omega
  rcases this with e | e <;> subst e
  · simp
  · rw [Nat.one_mul, fb_bit_set]; simp
theorem SPM_set {m p v ln oi : Nat} {w o : Nat → Nat} (h : SPM m w o ln oi) (hp : p < 12) (hl : ln.testBit p = false) (hoi : ∀ i, oi.testBit i = true → ln.testBit i = true) (hv : v < 2) : SPM (m + 1) (fun z => if z = m then p else w z) (fun z => if z = m then v else o z) (ln ||| 2 ^ p) (oi ||| v * 2 ^ p) := by
  refine ⟨fun z hz => ?_, fun i hi hb => ?_⟩
  · dsimp only
    by_cases e : z = m
    · simp only [if_pos e]
      rw [fb_bit_set, obit hv]
      have : oi.testBit p = false := by
        cases hx : oi.testBit p with
        | false => rfl
        | true => rw [hoi p hx] at hl; cases hl
      refine ⟨hp, by simp, by rw [this]; simp⟩
    · simp only [if_neg e]
      rw [fb_bit_set, obit hv]
      obtain ⟨a1, a2, a3⟩ := h.1 z (by omega)
      have hne : ¬ w z = p := fun q => by rw [q, hl] at a2; cases a2
      exact ⟨a1, by rw [a2]; rfl, by rw [a3, decide_eq_false hne]; simp⟩
  · rw [fb_bit_set] at hb
    by_cases e : i = p
    · exact ⟨m, by omega, by dsimp only; rw [if_pos rfl, e]⟩
    · rw [decide_eq_false e, Bool.or_false] at hb
      obtain ⟨z, hz, hw⟩ := h.2 i hi hb
      exact ⟨z, by omega, by dsimp only; rw [if_neg (by omega)]; exact hw⟩
def SQ9 (S : qSt) (m : Nat) (w o : Nat → Nat) : Prop := ∀ z, z < m → q_I S 60 z 0 = nI (w z / 4) ∧ q_I S 60 z 1 = nI (w z % 4) ∧ q_I S 60 z 2 = nI (o z) ∧ w z < 12 ∧ o z < 2
theorem SQ9_e {S S' : qSt} {m : Nat} {w o : Nat → Nat} (h : SQ9 S m w o) (hE : ME S S') : SQ9 S' m w o := fun z hz => by rw [(hE.2 60 z (fun q => by cases q)).1]; exact h z hz
theorem SQ9_set {S : qSt} {m p v : Nat} {w o : Nat → Nat} (h : SQ9 S m w o) (hp : p < 12) (hv : v < 2) {a b c : Int32} (ha : a = nI (p / 4)) (hb : b = nI (p % 4)) (hc : c = nI v) : SQ9 (q_wI (q_wI (q_wI S 60 m 0 a) 60 m 1 b) 60 m 2 c) (m + 1) (fun z => if z = m then p else w z) (fun z => if z = m then v else o z) := fun z hz => by
  dsimp only
  by_cases e : z = m
  · subst e
    simp only [if_true]
    refine ⟨?_, ?_, ?_, hp, hv⟩
    · rw [q_I_wI, if_neg (by omega), q_I_wI, if_neg (by omega), q_I_wI, if_pos ⟨rfl, rfl, rfl⟩]; exact ha
    · rw [q_I_wI, if_neg (by omega), q_I_wI, if_pos ⟨rfl, rfl, rfl⟩]; exact hb
    · rw [q_I_wI, if_pos ⟨rfl, rfl, rfl⟩]; exact hc
  · rw [if_neg e, if_neg e]
    have hrow : ∀ j, q_I (q_wI (q_wI (q_wI S 60 m 0 a) 60 m 1 b) 60 m 2 c) 60 z j = q_I S 60 z j := fun j => by rw [q_I_wI, if_neg (by omega), q_I_wI, if_neg (by omega), q_I_wI, if_neg (by omega)]
    rw [hrow, hrow, hrow]
    exact h z (by omega)
theorem KT.w60 {S S1 : qSt} (h : KT S S1) {i j : Nat} {v : Int32} : KT S (q_wI S1 60 i j v) := ⟨fun q hq => by rw [q_I_wI, if_neg (by omega)]; exact h.1 q hq, by rw [q_I_wI, if_neg (by omega)]; exact h.2.1, fr.wI h.2.2 (by show 40 ≤ 60 ∧ 60 < 80 ∧ 60 ≠ 42 ∧ 60 ≠ 44 ∧ 60 ≠ 46 ∧ 60 ≠ 48 ∧ 60 ≠ 52 ∧ 60 ≠ 54 ∧ 60 ≠ 58 ∧ 60 ≠ 65 ∧ 60 ≠ 68; decide)⟩
theorem ms_60 {S : qSt} {T : Nat → Nat} {n : Nat} {s : PS} (h : MS S T n s) {i j : Nat} {v : Int32} : MS (q_wI S 60 i j v) T n s := ms_w h (fun k hk => by rw [q_I_wI, if_neg (by omega)]) rfl
theorem r_spots (l : Launch) {S : qSt} {a : AS} {B : Nat} (hR : RF S a) (hO : OKA a B) (x : Int32) : RA l k_X11_spots [.inr (.inr (40, 0)), .inl x] S (sp_spots a x) := by
  have hd6 := hO.2.2.2.2.2.2.1
  have hR0 := hR.th (v := 0)
  have hT := RF_mt hR0 hO
  have htp := hT.2.1
  have h3 := hO.1.1
  unfold sp_spots
  by_cases h2 : 0 ≤ x ∧ x ≤ nI (min (aHd a) 60)
  · rw [spI_2 h2]
    obtain ⟨n, hn, rfl⟩ := i_rng (m := (min (aHd a) 60)) (by omega) h2.1 h2.2
    rw [i_cl (by omega)]
    refine ⟨40, by decide, ?_⟩
    refine q_meth zoX11_spots q_fos (Nat.le_of_ble_eq_true rfl) ?_
    intro AT step
    have k10F : ∀ S1 p q v2 v3, KT (q_wI S 40 0 0 0) S1 → MD S1 (aT a) n p (some q) → (srl (aT a) n (aY a) 61 0 0 0).1 = .inr q → AT 10 [some (.inr (.inr (40, 0))), some (.inl (nI n)), some (.inl v2), some (.inl v3), none, none, none, none] [] S1 := by
      intro S1 p q v2 v3 hk hm hs
      refine step 40 [(5, [true, true, true, true, false, false, false, false]), (8, [true, true, true, true, true, true, true, false]), (10, [true, true, true, true, false, false, false, false])] 10 _ _ _ ?_
      simp only [q_vcs, q_vcc, q_vl, q_vu, ↓reduceIte, Nat.reduceEqDiff, Bool.false_eq_true, q_isc, q_mk, q_msk, zbX11_spots, q_pad, q_ent, q_get, q_put, q_nl, q_w, List.cons_append, List.nil_append, q_aks, q_als, Nat.reduceAdd, Nat.reduceLeDiff, Nat.zero_le, true_and, and_true, Option.some.injEq, Sum.inl.injEq, Sum.inr.injEq, true_or, or_true, and_self, q_sw]
      rw [mek_0 hm]
      refine ⟨fun z => (by cases z), fun _ => ?_⟩
      refine ⟨_, _, (by decide : 0 < 40), c_mends l S1 hm, fun v S2 h => ?_⟩
      obtain ⟨g1, g2⟩ := h
      cases g1
      subst g2
      unfold sp_spots1
      rw [hs]
      refine ⟨rfl, ?_, RF_fail hR0 hk hm (fp := some q.2), ?_⟩
      · rw [q_I_wI, if_neg (by omega), hk.1 0 (by omega), q_I_wI, if_pos ⟨rfl, rfl, rfl⟩]; rfl
      · exact fth.tr ((fr.wI hk.2.2 (by decide)).mn (fun f i z => ⟨z.1, z.2.1⟩))
    have k10T : ∀ S1 p b ln oi m w o v3, KT (q_wI S 40 0 0 0) S1 → MD S1 (aT a) n p none → srl (aT a) n (aY a) 61 0 0 0 = (.inl b, ln, oi) → SQ9 S1 m w o → SPM m w o ln oi → m = pcn ln → AT 10 [some (.inr (.inr (40, 0))), some (.inl (nI n)), some (.inl (nI m)), some (.inl v3), none, none, none, none] [] S1 := by
      intro S1 p b ln oi m w o v3 hk hm hs hq hsp hpm
      have hm12 : m ≤ 12 := by rw [hpm]; exact pcn_le ln
      have hF := RF_fail hR0 hk hm (fp := none)
      refine step 40 [(5, [true, true, true, true, false, false, false, false]), (8, [true, true, true, true, true, true, true, false]), (10, [true, true, true, true, false, false, false, false])] 10 _ _ _ ?_
      simp only [q_vcs, q_vcc, q_vl, q_vu, ↓reduceIte, Nat.reduceEqDiff, Bool.false_eq_true, q_isc, q_mk, q_msk, zbX11_spots, q_pad, q_ent, q_get, q_put, q_nl, q_w, List.cons_append, List.nil_append, q_aks, q_als, Nat.reduceAdd, Nat.reduceLeDiff, Nat.zero_le, true_and, and_true, Option.some.injEq, Sum.inl.injEq, Sum.inr.injEq, true_or, or_true, and_self, q_sw]
      rw [mek_0 hm]
      refine ⟨fun _ => ?_, fun z => absurd rfl z⟩
      refine ⟨_, _, (by decide : 0 < 40), c_mlays59 l _ (m := m) hm12, fun S2 h => ?_⟩
      obtain ⟨c1, c2⟩ := h
      unfold sp_spots1
      rw [hs]
      obtain ⟨f1, f2, f3, f4, f5, f6, f7, f8, f9⟩ := hF
      have e40 : ∀ j, j ≠ 33 → q_I S2 40 0 j = q_I (q_wI S1 40 0 3 (-1)) 40 0 j := fun j hj => by rw [(c2 40 0 (by decide)).1, q_I_wI, if_neg (by omega)]
      have ff : fr (fun f i => (f = 40 ∧ i = 0) ∨ f = 58) (q_wI S1 40 0 3 (oI none)) S2 := (fr.wI (F := fun f i => (f = 40 ∧ i = 0) ∨ f = 58) fr.rf (Or.inl ⟨rfl, rfl⟩)).tr (c2.mn (fun f i z => Or.inr z))
      refine ⟨by rw [hpm]; rfl, ?_, ⟨f1.fr ff (fun _ => by omega) (fun _ => by omega) (fun _ => by omega) (fun _ => by omega), ?_, ⟨m, w, o, ⟨?_, hm12, fun z hz => ?_⟩, hsp, hpm⟩, ⟨?_, f4.2.1.fr ff (by omega), fun j hj => (f4.2.2 j hj).fr ff (by omega)⟩, ⟨?_, fun i hi => ?_⟩, ⟨?_, ?_⟩, ?_, ⟨?_, ?_⟩, ?_⟩, ?_⟩
      · rw [e40 0 (by decide), q_I_wI, if_neg (by omega), hk.1 0 (by omega), q_I_wI, if_pos ⟨rfl, rfl, rfl⟩]; rfl
      · rcases f2 with ⟨e1, q⟩ | ⟨l0, q1, q2⟩
        · exact Or.inl ⟨e1, by rw [e40 19 (by decide)]; exact q⟩
        · exact Or.inr ⟨l0, by rw [e40 19 (by decide)]; exact q1, fun k hk' => by rw [(ff 54 k (by omega)).1]; exact q2 k hk'⟩
      · rw [(c2 40 0 (by decide)).1, q_I_wI, if_pos ⟨rfl, rfl, rfl⟩]
      · have := hq z hz
        rw [c1 z hz 0 (by decide), c1 z hz 1 (by decide), c1 z hz 2 (by decide), q_I_wI, if_neg (by omega), q_I_wI, if_neg (by omega), q_I_wI, if_neg (by omega), q_I_wI, if_neg (by omega), q_I_wI, if_neg (by omega), q_I_wI, if_neg (by omega)]
        exact this
      · rw [e40 34 (by decide)]; exact f4.1
      · rw [e40 36 (by decide)]; exact f5.1
      · unfold MI
        rw [(ff 68 i (by omega)).1]
        exact f5.2 i hi
      · rw [e40 1 (by decide)]; exact f6.1
      · rw [(ff 41 0 (by omega)).1]; exact f6.2
      · rw [e40 3 (by decide)]; exact f7
      · rw [e40 35 (by decide)]; exact f8.1
      · rw [(ff 42 0 (by omega)).1]; exact f8.2
      · rw [e40 47 (by decide)]; exact f9
      · exact fth.tr (((fr.wI hk.2.2 (by decide)).mn (fun f i z => ⟨z.1, z.2.1⟩)).tr (ff.mn (fun f i z => by show 40 ≤ f ∧ f < 80; omega)))
    have k5F : ∀ S1 p q v2 v3, KT (q_wI S 40 0 0 0) S1 → MD S1 (aT a) n p (some q) → (srl (aT a) n (aY a) 61 0 0 0).1 = .inr q → AT 5 [some (.inr (.inr (40, 0))), some (.inl (nI n)), some (.inl v2), some (.inl v3), none, none, none, none] [] S1 := by
      intro S1 p q v2 v3 hk hm hs
      have kk := k10F S1 p q v2 v3 hk hm hs
      refine step 40 [(5, [true, true, true, true, false, false, false, false]), (8, [true, true, true, true, true, true, true, false]), (10, [true, true, true, true, false, false, false, false])] 5 _ _ _ ?_
      simp only [q_vcs, q_vcc, q_vl, q_vu, ↓reduceIte, Nat.reduceEqDiff, Bool.false_eq_true, q_isc, q_mk, q_msk, zbX11_spots, q_pad, q_ent, q_get, q_put, q_nl, q_w, List.cons_append, List.nil_append, q_aks, q_als, Nat.reduceAdd, Nat.reduceLeDiff, Nat.zero_le, true_and, and_true, Option.some.injEq, Sum.inl.injEq, Sum.inr.injEq, true_or, or_true, and_self, q_sw]
      rw [mek_0 hm]
      exact ⟨fun _ => kk, fun z => (by cases z)⟩
    have k8F : ∀ S1 q v2 v3 v4 v5 v6, KT (q_wI S 40 0 0 0) S1 → MS S1 (aT a) n (.inr q) → (srl (aT a) n (aY a) 61 0 0 0).1 = .inr q → AT 8 [some (.inr (.inr (40, 0))), some (.inl (nI n)), some (.inl v2), some (.inl v3), some (.inl v4), some (.inl v5), some (.inl v6), none] [] S1 := by
      intro S1 q v2 v3 v4 v5 v6 hk hm hs
      refine step 40 [(5, [true, true, true, true, false, false, false, false]), (8, [true, true, true, true, true, true, true, false]), (10, [true, true, true, true, false, false, false, false])] 8 _ _ _ ?_
      simp only [q_vcs, q_vcc, q_vl, q_vu, ↓reduceIte, Nat.reduceEqDiff, Bool.false_eq_true, q_isc, q_mk, q_msk, zbX11_spots, q_pad, q_ent, q_get, q_put, q_nl, q_w, List.cons_append, List.nil_append, q_aks, q_als, Nat.reduceAdd, Nat.reduceLeDiff, Nat.zero_le, true_and, and_true, Option.some.injEq, Sum.inl.injEq, Sum.inr.injEq, true_or, or_true, and_self, q_sw]
      refine ⟨_, _, (by decide : 2 < 40), c_mnumber l S1 (s := .inr q) (lo := 0) (h := 2) hm rfl rfl (by decide) (by decide), fun v S2 h => ?_⟩
      obtain ⟨g1, g2, g3⟩ := h
      cases g1
      refine ⟨_, _, (by decide : 2 < 40), c_msign l S2 (s := .inr q) (c := 59) g2 (by decide), fun S3 h => ?_⟩
      obtain ⟨i1, i2⟩ := h
      obtain ⟨p, i1⟩ := i1
      rw [mek_0 i1]
      refine ⟨fun _ => ?_, fun z => (by cases z)⟩
      refine ⟨_, _, (by decide : 1 < 40), c_mblanks l S3 i1, fun S4 h => ?_⟩
      exact k5F S4 _ q _ _ (((hk.e g3).e i2).e h.2) h.1 hs
    have k5 : ∀ f k b ln oi m w o S1, k + f = 61 → k ≤ b → srl (aT a) n (aY a) f b ln oi = srl (aT a) n (aY a) 61 0 0 0 → MD S1 (aT a) n (tx (aT a) n isb b) none → KT (q_wI S 40 0 0 0) S1 → SQ9 S1 m w o → SPM m w o ln oi → m = pcn ln → (∀ i, oi.testBit i = true → ln.testBit i = true) → ln < 4096 → AT 5 [some (.inr (.inr (40, 0))), some (.inl (nI n)), some (.inl (nI m)), some (.inl (nI ln)), none, none, none, none] [] S1 := by
      intro f
      induction f with
      | zero =>
        intro k b ln oi m w o S1 h1 hkb he hm
        have := hm.1
        have := tx_ge (aT a) n isb b
        omega
      | succ f ih =>
        intro k b ln oi m w o S1 h1 hkb he hm hk hq hsp hpm hoi hln
        have hm1 := hm.1
        have hge := tx_ge (aT a) n isb b
        have hM1 : MY S1 (aY a) := hR0.1.fr hk.2.2 (fun _ => by omega) (fun _ => by omega) (fun _ => by omega) (fun _ => by omega)
        by_cases hend : n ≤ tx (aT a) n isb b
        · rw [srl, if_pos hend] at he
          have kk := k10T S1 _ _ ln oi m w o (nI ln) hk hm he.symm hq hsp hpm
          refine step 40 [(5, [true, true, true, true, false, false, false, false]), (8, [true, true, true, true, true, true, true, false]), (10, [true, true, true, true, false, false, false, false])] 5 _ _ _ ?_
          simp only [q_vcs, q_vcc, q_vl, q_vu, ↓reduceIte, Nat.reduceEqDiff, Bool.false_eq_true, q_isc, q_mk, q_msk, zbX11_spots, q_pad, q_ent, q_get, q_put, q_nl, q_w, List.cons_append, List.nil_append, q_aks, q_als, Nat.reduceAdd, Nat.reduceLeDiff, Nat.zero_le, true_and, and_true, Option.some.injEq, Sum.inl.injEq, Sum.inr.injEq, true_or, or_true, and_self, q_sw]
          rw [mek_0 hm, hm.2.1.2.1, hm.2.1.1, nI_leI (by omega) (by omega)]
          exact ⟨fun z => absurd rfl z, fun _ => ⟨fun _ => kk, fun z => absurd hend z⟩⟩
        · rw [srl, if_neg hend] at he
          have eF : ∀ q, spl (aT a) n (aY a) (tx (aT a) n isb b) ln = .inr q → (srl (aT a) n (aY a) 61 0 0 0).1 = .inr q := fun q hq => by rw [← he, hq]
          generalize hA : tx (aT a) n isb b = A at hm hm1 hge hend he eF
          refine step 40 [(5, [true, true, true, true, false, false, false, false]), (8, [true, true, true, true, true, true, true, false]), (10, [true, true, true, true, false, false, false, false])] 5 _ _ _ ?_
          simp only [q_vcs, q_vcc, q_vl, q_vu, ↓reduceIte, Nat.reduceEqDiff, Bool.false_eq_true, q_isc, q_mk, q_msk, zbX11_spots, q_pad, q_ent, q_get, q_put, q_nl, q_w, List.cons_append, List.nil_append, q_aks, q_als, Nat.reduceAdd, Nat.reduceLeDiff, Nat.zero_le, true_and, and_true, Option.some.injEq, Sum.inl.injEq, Sum.inr.injEq, true_or, or_true, and_self, q_sw]
          rw [mek_0 hm, hm.2.1.2.1, hm.2.1.1, nI_leI (by omega) (by omega), show q_I S1 44 0 (Int32.toNatClampNeg 0) = nI (aY a 0 0) from hM1.1]
          refine ⟨fun z => absurd rfl z, fun _ => ⟨fun z => absurd z hend, fun _ => ⟨i_in (k := 0) (by decide) (by decide), ?_⟩⟩⟩
          refine ⟨_, _, (by decide : 2 < 40), c_mnumber l S1 (s := .inl A) (lo := 0) (h := aY a 0 0) hm rfl rfl (by decide) (by omega), fun v S2 h => ?_⟩
          obtain ⟨g1, g2, g3⟩ := h
          cases g1
          have hk2 := hk.e g3
          cases hs1 : pnm (aT a) n 0 (aY a 0 0) (.inl A) with
          | inr q =>
            rw [hs1] at g2
            obtain ⟨p, g2⟩ := g2
            have hsp1 : sp1 (aT a) n (aY a) A = .inr q := hs1
            have ef := eF q (by unfold spl sp3 sp2; rw [hsp1]; rfl)
            refine ⟨_, _, (by decide : 1 < 40), c_mblanks l S2 g2, fun S3 h => ?_⟩
            obtain ⟨b1, b2⟩ := h
            rw [mek_0 b1]
            refine ⟨fun _ => ?_, fun z => (by cases z)⟩
            refine ⟨_, _, (by decide : 2 < 40), c_mnumber l S3 (s := .inr q) (lo := 0) (h := 1) ⟨_, b1⟩ rfl rfl (by decide) (by decide), fun v S4 h => ?_⟩
            obtain ⟨i1, i2, i3⟩ := h
            cases i1
            have i2' : MS S4 (aT a) n (.inr q) := i2
            obtain ⟨p4, i2⟩ := i2
            rw [mek_0 i2]
            exact ⟨fun _ => k8F S4 q _ _ _ _ _ ((hk2.e b2).e i3) i2' ef, fun z => (by cases z)⟩
          | inl c1 =>
            rw [hs1] at g2
            have g2 : MD S2 (aT a) n c1 none := g2
            have hsp1 : sp1 (aT a) n (aY a) A = .inl c1 := hs1
            have pv := pnm_v (show (pnm (aT a) n 0 (aY a 0 0) (.inl A)).isLeft = true by rw [hs1]; rfl)
            have hv1 : nmN (aT a) n A < aY a 0 0 := pv.2.2
            have ev : (if (Sum.inl c1 : PS).isLeft = true then pvl (aT a) n (.inl A) else 0) = nmN (aT a) n A := rfl
            rw [ev]
            have eps : spp (aT a) n (aY a) A = 4 * nmN (aT a) n A + nmN (aT a) n c1 := by unfold spp; rw [hsp1]; rfl
            have esp2 : sp2 (aT a) n (aY a) A = pnm (aT a) n 0 (plc (aY a) (nmN (aT a) n A)) (.inl (tx (aT a) n isb c1)) := by unfold sp2; rw [hsp1, ← pnm_b]; rfl
            generalize hV1 : nmN (aT a) n A = v1 at hv1 eps esp2 ⊢
            refine ⟨_, _, (by decide : 1 < 40), c_mblanks l S2 g2, fun S3 h => ?_⟩
            obtain ⟨b1, b2⟩ := h
            have hk3 := hk2.e b2
            have hb1 := b1.1
            have hM3 : MY S3 (aY a) := hR0.1.fr hk3.2.2 (fun _ => by omega) (fun _ => by omega) (fun _ => by omega) (fun _ => by omega)
            have hpl : plc (aY a) v1 ≤ 4 := plc_le hO.1 v1
            have hpv : q_I S3 46 0 v1 = nI (plc (aY a) v1) := by unfold plc; rw [if_pos hv1]; exact hM3.2.2.2.1 v1 hv1
            rw [mek_0 b1, i_cl (by omega), hpv, b1.2.1.2.1]
            refine ⟨fun z => absurd rfl z, fun _ => ⟨i_in (by omega) (by decide), ?_⟩⟩
            refine ⟨_, _, (by decide : 2 < 40), c_mnumber l S3 (s := .inl (tx (aT a) n isb c1)) (lo := 0) (h := plc (aY a) v1) b1 rfl rfl (by decide) (by omega), fun v S4 h => ?_⟩
            obtain ⟨i1, i2, i3⟩ := h
            cases i1
            have hk4 := hk3.e i3
            cases hs2 : pnm (aT a) n 0 (plc (aY a) v1) (.inl (tx (aT a) n isb c1)) with
            | inr q =>
              rw [hs2] at i2 esp2
              have ef := eF q (by unfold spl sp3; rw [hsp1, esp2]; rfl)
              have i2' : MS S4 (aT a) n (.inr q) := i2
              obtain ⟨p4, i2⟩ := i2
              rw [mek_0 i2]
              exact ⟨fun _ => k8F S4 q _ _ _ _ _ hk4 i2' ef, fun z => (by cases z)⟩
            | inl c2 =>
              have pv2 := pnm_v (show (pnm (aT a) n 0 (plc (aY a) v1) (.inl (tx (aT a) n isb c1))).isLeft = true by rw [hs2]; rfl)
              rw [hs2] at i2 esp2
              have i2 : MD S4 (aT a) n c2 none := i2
              have hv2 : nmN (aT a) n (tx (aT a) n isb c1) < plc (aY a) v1 := pv2.2.2
              rw [nmN_b] at hv2
              have ev2 : (if (Sum.inl c2 : PS).isLeft = true then pvl (aT a) n (.inl (tx (aT a) n isb c1)) else 0) = nmN (aT a) n c1 := nmN_b _ _ _
              rw [ev2]
              generalize hV2 : nmN (aT a) n c1 = v2 at hv2 eps ⊢
              rw [mek_0 i2]
              refine ⟨fun z => absurd rfl z, fun _ => ?_⟩
              rw [show (4 : Int32) = nI 4 from rfl, pk_mul, nI_add]
              refine q_u1 (by decide) (c_mhas l S4 (n := ln) (k := 4 * v1 + v2) (by omega) (by omega)) ?_
              have hp12 : 4 * v1 + v2 < 12 := by omega
              cases hbit : ln.testBit (4 * v1 + v2) with
              | true =>
                have ef := eF (2, tx (aT a) n isb c1) (by unfold spl sp3; rw [hsp1, esp2, eps]; unfold pdb; dsimp only; rw [if_pos hbit]; rfl)
                refine ⟨fun z => absurd z (by decide), fun _ => ?_⟩
                refine ⟨_, _, (by decide : 0 < 40), c_mwrong l S4 i2 (k := 2) (p := tx (aT a) n isb c1) (by decide) (by omega), fun S5 h => ?_⟩
                exact k8F S5 (2, tx (aT a) n isb c1) _ _ _ _ _ (hk4.e h.2) ⟨_, h.1⟩ ef
              | false =>
                have e3 : sp3 (aT a) n (aY a) A ln = .inl c2 := by unfold sp3; rw [hsp1, esp2, eps]; unfold pdb; dsimp only; rw [if_neg (by rw [hbit]; decide)]
                have es : spl (aT a) n (aY a) A ln = psg (aT a) n 59 (pnm (aT a) n 0 2 (.inl c2)) := by unfold spl; rw [e3]
                have eo : spo (aT a) n (aY a) A ln = nmN (aT a) n c2 := by unfold spo; rw [e3]; rfl
                refine ⟨fun _ => ?_, fun z => absurd rfl z⟩
                refine step 40 [(5, [true, true, true, true, false, false, false, false]), (8, [true, true, true, true, true, true, true, false]), (10, [true, true, true, true, false, false, false, false])] 8 _ _ _ ?_
                simp only [q_vcs, q_vcc, q_vl, q_vu, ↓reduceIte, Nat.reduceEqDiff, Bool.false_eq_true, q_isc, q_mk, q_msk, zbX11_spots, q_pad, q_ent, q_get, q_put, q_nl, q_w, List.cons_append, List.nil_append, q_aks, q_als, Nat.reduceAdd, Nat.reduceLeDiff, Nat.zero_le, true_and, and_true, Option.some.injEq, Sum.inl.injEq, Sum.inr.injEq, true_or, or_true, and_self, q_sw]
                refine ⟨_, _, (by decide : 2 < 40), c_mnumber l S4 (s := .inl c2) (lo := 0) (h := 2) i2 rfl rfl (by decide) (by decide), fun v S5 h => ?_⟩
                obtain ⟨j1, j2, j3⟩ := h
                cases j1
                refine ⟨_, _, (by decide : 2 < 40), c_msign l S5 (s := pnm (aT a) n 0 2 (.inl c2)) (c := 59) j2 (by decide), fun S6 h => ?_⟩
                obtain ⟨o1, o2⟩ := h
                have hk6 := (hk4.e j3).e o2
                have hq6 := SQ9_e (SQ9_e (SQ9_e (SQ9_e (SQ9_e hq g3) b2) i3) j3) o2
                cases hsl : psg (aT a) n 59 (pnm (aT a) n 0 2 (.inl c2)) with
                | inr q =>
                  rw [hsl] at o1
                  obtain ⟨p6, o1⟩ := o1
                  rw [mek_0 o1]
                  refine ⟨fun _ => ?_, fun z => (by cases z)⟩
                  refine ⟨_, _, (by decide : 1 < 40), c_mblanks l S6 o1, fun S7 h => ?_⟩
                  exact k5F S7 _ q _ _ (hk6.e h.2) h.1 (eF q (by rw [es, hsl]))
                | inl b' =>
                  have hl3 : (pnm (aT a) n 0 2 (.inl c2)).isLeft = true := psg_v (show (psg (aT a) n 59 (pnm (aT a) n 0 2 (.inl c2))).isLeft = true by rw [hsl]; rfl)
                  have pv3 := pnm_v hl3
                  have hv3 : nmN (aT a) n c2 < 2 := pv3.2.2
                  rw [hsl] at o1
                  have o1 : MD S6 (aT a) n b' none := o1
                  rw [if_pos hl3, show pvl (aT a) n (.inl c2) = nmN (aT a) n c2 from rfl]
                  rw [es, hsl] at he
                  dsimp only at he
                  rw [eo, eps] at he
                  generalize hV3 : nmN (aT a) n c2 = v3 at hv3 he ⊢
                  have hpc := pcn_set hp12 hbit
                  have hm13 : m + 1 ≤ 12 := by rw [hpm, ← hpc]; exact pcn_le _
                  have hlt := spl_lt (show spl (aT a) n (aY a) A ln = .inl b' by rw [es, hsl])
                  rw [mek_0 o1, show (4 : Int32) = nI 4 from rfl, pk_mul, nI_add, i_1sh _ (by omega), fa_or, nI_1, i_cl (by omega)]
                  refine ⟨fun z => absurd rfl z, fun _ => ?_⟩
                  refine ⟨i_in (by omega) (by decide), i_in (k := 0) (by decide) (by decide), i_in (by omega) (by decide), i_in (k := 1) (by decide) (by decide), i_in (by omega) (by decide), i_in (k := 2) (by decide) (by decide), ?_⟩
                  have ms7 : MS (q_wI (q_wI (q_wI S6 60 m 0 (nI v1)) 60 m 1 (nI v2)) 60 m 2 (nI v3)) (aT a) n (.inl b') := ms_60 (ms_60 (ms_60 (s := .inl b') o1))
                  refine ⟨_, _, (by decide : 1 < 40), c_mblanks l _ (show MD (q_wI (q_wI (q_wI S6 60 m 0 (nI v1)) 60 m 1 (nI v2)) 60 m 2 (nI v3)) (aT a) n b' none from ms7), fun S8 h => ?_⟩
                  refine ih (k + 1) b' (ln ||| 2 ^ (4 * v1 + v2)) (oi ||| v3 * 2 ^ (4 * v1 + v2)) (m + 1) _ _ S8 (by omega) (by omega) he h.1 ((((hk6.w60).w60).w60).e h.2) (SQ9_e (SQ9_set hq6 hp12 hv3 (by rw [show (4 * v1 + v2) / 4 = v1 by omega]) (by rw [show (4 * v1 + v2) % 4 = v2 by omega]) rfl) h.2) (SPM_set hsp hp12 hbit hoi hv3) (by rw [hpm, hpc]) (fun i hi => ?_) (Nat.or_lt_two_pow (n := 12) hln (Nat.pow_lt_pow_right (by decide) hp12))
                  rw [obit hv3] at hi
                  rw [fb_bit_set]
                  cases hx : oi.testBit i with
                  | true => rw [hoi i hx]; rfl
                  | false =>
                    rw [hx, Bool.false_or, Bool.and_eq_true] at hi
                    rw [hi.1, Bool.or_true]
    refine step 40 [(5, [true, true, true, true, false, false, false, false])] 0 _ _ _ ?_
    simp only [q_vcs, q_vcc, q_vl, q_vu, ↓reduceIte, Nat.reduceEqDiff, Bool.false_eq_true, q_isc, q_mk, q_msk, zbX11_spots, q_pad, q_ent, q_get, q_put, q_nl, q_w, List.cons_append, List.nil_append, q_aks, q_als, Nat.reduceAdd, Nat.reduceLeDiff, Nat.zero_le, true_and, and_true, Option.some.injEq, Sum.inl.injEq, Sum.inr.injEq, true_or, or_true, and_self, q_sw]
    rw [htp]
    refine q_u1 (by decide) (c_min l _ (nI n) 0 (nI (aHd a))) ?_
    rw [decide_eq_true ⟨h2.1, (nI_leI (by omega) (by omega)).mpr (show n ≤ aHd a by omega)⟩, show (60 : Int32) = nI 60 from rfl, nI_leI (a := n) (b := 60) (by omega) (by decide)]
    refine ⟨fun z => absurd z (by decide), fun _ => ⟨fun _ => ?_, fun z => absurd (by omega) z⟩⟩
    refine q_u1 (by decide) (c_mbN l S (w := 1) (r := 1) (by decide) (by decide)) ?_
    first | refine ⟨fun _ => ?_, fun q => absurd q (by decide)⟩ | refine ⟨fun q => absurd q (by decide), fun _ => ?_⟩
    refine ⟨_, _, (by decide : 2 < 40), c_mstarts l _ hT (show n ≤ aHd a by omega), fun S1 h => ?_⟩
    obtain ⟨g1, ⟨g2, g3, g4⟩, g5, g6⟩ := h
    exact k5 61 0 0 0 0 0 (fun _ => 0) (fun _ => 0) S1 rfl (by decide) rfl g1 (KT.s g2 g5 g6) (fun z hz => absurd hz (Nat.not_lt_zero _)) ⟨fun z hz => absurd hz (Nat.not_lt_zero _), fun i hi hh => absurd hh (by simp)⟩ (by decide) (fun i hi => hi) (by decide)
  · rw [spI_1 h2]
    refine RA_i (d := 20) (by decide) hR ?_
    refine q_meth zoX11_spots q_fos (Nat.le_of_ble_eq_true rfl) ?_
    intro AT step
    refine step 40 [(4, [true, true, true, true, false, false, false, false])] 0 _ _ _ ?_
    simp only [q_vcs, q_vcc, q_vl, q_vu, ↓reduceIte, Nat.reduceEqDiff, Bool.false_eq_true, q_isc, q_mk, q_msk, zbX11_spots, q_pad, q_ent, q_get, q_put, q_nl, q_w, List.cons_append, List.nil_append, q_aks, q_als, Nat.reduceAdd, Nat.reduceLeDiff, Nat.zero_le, true_and, and_true, Option.some.injEq, Sum.inl.injEq, Sum.inr.injEq, true_or, or_true, and_self, q_sw]
    rw [htp]
    refine q_u1 (by decide) (c_min l _ x 0 (nI (aHd a))) ?_
    by_cases k0 : 0 ≤ x ∧ x ≤ nI (aHd a)
    · rw [decide_eq_true k0]
      obtain ⟨n, hn, rfl⟩ := i_rng (m := aHd a) (by omega) k0.1 k0.2
      rw [show (60 : Int32) = nI 60 from rfl, nI_leI (a := n) (b := 60) (by omega) (by decide)]
      have hn60 : ¬ n ≤ 60 := fun z => h2 ⟨k0.1, (nI_leI (by omega) (by omega)).mpr (by omega)⟩
      refine ⟨fun z => absurd z (by decide), fun _ => ⟨fun z => absurd z hn60, fun _ => ?_⟩⟩
      refine q_u1 (by decide) (c_mbY l S (w := 1) (r := 1) (by decide) (by decide)) ?_
      first | refine ⟨fun _ => ?_, fun q => absurd q (by decide)⟩ | refine ⟨fun q => absurd q (by decide), fun _ => ?_⟩
      first | rfl | exact ⟨rfl, rfl⟩ | trivial
    · rw [decide_eq_false k0]
      refine ⟨fun _ => ?_, fun z => absurd rfl z⟩
      refine q_u1 (by decide) (c_mbY l S (w := 1) (r := 1) (by decide) (by decide)) ?_
      first | refine ⟨fun _ => ?_, fun q => absurd q (by decide)⟩ | refine ⟨fun q => absurd q (by decide), fun _ => ?_⟩
      first | rfl | exact ⟨rfl, rfl⟩ | trivial
