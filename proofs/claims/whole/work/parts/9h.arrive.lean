/-! The class's search: a stand is come to -/
def SSt (S : qSt) (y : Nat) (Y : YD) (w : Nat) (g : Option Nat) (lim : Nat) (cut : Bool) (t n : Nat) (q : Nat → Nat → List Nat) (m : Nat → Nat) : Prop := SO S y (nI w) g ∧ YO S y Y ∧ HT S t n q m ∧ q_I S 29 0 8 = nI lim ∧ q_I S 29 0 9 = bI cut ∧ q_I S 29 0 10 = -1 ∧ q_I S 29 0 11 = -1 ∧ ∀ i, i < n → m i < 128
def TS (S : qSt) (t : Nat) : Prop := q_I S 29 0 4 = nI t ∧ t < 65536 ∧ ∃ v : Nat → Nat, ∀ s, s < 32768 → q_I S 32 0 s = nI (v s) ∧ v s < 2 ^ 31 ∧ v s / 32768 ≤ t
theorem HT.ts {S : qSt} {t n : Nat} {q : Nat → Nat → List Nat} {m : Nat → Nat} (h : HT S t n q m) : TS S t := by
  obtain ⟨t1, t2, t3, t4, t5, v, ps, t6, t7⟩ := h
  exact ⟨t2, t4, v, fun s hs => ⟨t6 s hs, (t7.1 s hs).1, (t7.1 s hs).2⟩⟩
theorem HT.wI {S : qSt} {t n j : Nat} {q : Nat → Nat → List Nat} {m : Nat → Nat} {z : Int32} (h : HT S t n q m) (h3 : j ≠ 3) (h4 : j ≠ 4) : HT (q_wI S 29 0 j z) t n q m := by
  obtain ⟨t1, t2, t3, t4, t5, v, ps, t6, t7⟩ := h
  refine ⟨?_, ?_, t3, t4, fun i hi => ⟨?_, ?_⟩, v, ps, fun s hs => ?_, t7⟩
  · rw [q_I_wI, if_neg (fun e => h3 e.2.2.symm)]; exact t1
  · rw [q_I_wI, if_neg (fun e => h4 e.2.2.symm)]; exact t2
  · exact (t5 i hi).1
  · rw [q_I_wI, if_neg (fun e => by have := e.1; omega)]; exact (t5 i hi).2
  · rw [q_I_wI, if_neg (fun e => by have := e.1; omega)]; exact t6 s hs
theorem TS.wI {S : qSt} {t j : Nat} {z : Int32} (h : TS S t) (h4 : j ≠ 4) : TS (q_wI S 29 0 j z) t := by
  obtain ⟨t1, t2, v, t3⟩ := h
  refine ⟨?_, t2, v, fun s hs => ⟨?_, (t3 s hs).2⟩⟩
  · rw [q_I_wI, if_neg (fun e => h4 e.2.2.symm)]; exact t1
  · rw [q_I_wI, if_neg (fun e => by have := e.1; omega)]; exact (t3 s hs).1
def Gw {V : Type} (q : Nat → V) (d m : Nat → Nat) (n : Nat) (q' : Nat → V) (d' m' : Nat → Nat) (n' hd : Nat) : Prop := n ≤ n' ∧ (∀ j, j < n → q' j = q j ∧ d' j = d j ∧ m' j = m j) ∧ ∀ j, n ≤ j → j < n' → d' j = d hd + 1
theorem Gw.rf {V : Type} {q : Nat → V} {d m : Nat → Nat} {n hd : Nat} : Gw q d m n q d m n hd := ⟨Nat.le_refl _, fun _ _ => ⟨rfl, rfl, rfl⟩, fun j h1 h2 => by omega⟩
theorem Gw.tr {V : Type} {q q' q2 : Nat → V} {d m d' m' d2 m2 : Nat → Nat} {n n' n2 hd : Nat} (hd1 : hd < n) (h : Gw q d m n q' d' m' n' hd) (h2 : Gw q' d' m' n' q2 d2 m2 n2 hd) : Gw q d m n q2 d2 m2 n2 hd := by
  obtain ⟨a1, a2, a3⟩ := h
  obtain ⟨b1, b2, b3⟩ := h2
  refine ⟨by omega, fun j hj => ?_, fun j h1 h2 => ?_⟩
  · have x := a2 j hj
    have y := b2 j (by omega)
    exact ⟨y.1.trans x.1, y.2.1.trans x.2.1, y.2.2.trans x.2.2⟩
  · by_cases e : j < n'
    · rw [(b2 j e).2.1]; exact a3 j h1 e
    · rw [b3 j (by omega) h2, (a2 hd hd1).2.1]
theorem Gw.push {V : Type} {q : Nat → V} {d m : Nat → Nat} {n hd a : Nat} {v : V} : Gw q d m n (up q n v) (up d n (d hd + 1)) (up m n a) (n + 1) hd := by
  refine ⟨by omega, fun j hj => ⟨up_ne (by omega), up_ne (by omega), up_ne (by omega)⟩, fun j h1 h2 => ?_⟩
  rw [show j = n by omega, up_eq]
abbrev CBs (Y : YD) (w : Nat) (g : Option Nat) (P0 : Nat → List Nat) (lim : Nat) (cut : Bool) (q : Nat → Nat → List Nat) (d m : Nat → Nat) (hd tl xb : Nat) (D : Nat → (Nat → List Nat) → Prop) : Prop := CB (mvE Y w g) (stl Y g P0) (fun P => rch P g = true) (fun P => lst9 Y P g) lim cut q d m hd tl xb D
theorem CB_rs {Y : YD} (hY : y_ok Y) {w : Nat} {g : Option Nat} {P0 : Nat → List Nat} (hP : p_ok Y P0) (hw : fitW Y w P0) {lim : Nat} {cut : Bool} {q : Nat → Nat → List Nat} {d m : Nat → Nat} {hd tl xb : Nat} {D : Nat → (Nat → List Nat) → Prop} (h : CBs Y w g P0 lim cut q d m hd tl xb D) {i : Nat} (hi : i < tl) : RSx Y w g P0 (q i) := RSx_wk hY hP hw (h.1.2.2.2.1 i hi)
theorem CB_cap {Y : YD} (hY : y_ok Y) {w : Nat} {g : Option Nat} {P0 : Nat → List Nat} (hP : p_ok Y P0) (hw : fitW Y w P0) {lim : Nat} {cut : Bool} {q : Nat → Nat → List Nat} {d m : Nat → Nat} {hd tl xb : Nat} {D : Nat → (Nat → List Nat) → Prop} (h : CBs Y w g P0 lim cut q d m hd tl xb D) : tl ≤ 19690 :=
  pig9 (q := q) (c := pcl) (fun i j hi hj e => h.1.2.2.2.2.2.1 i j hi hj (pcl_u hY (CB_rs hY hP hw h hi) (CB_rs hY hP hw h hj) e)) (fun i hi => pcl_lt hY (CB_rs hY hP hw h hi))
theorem SSt.fr {S S' : qSt} {y : Nat} {Y : YD} {w : Nat} {g : Option Nat} {lim : Nat} {cut : Bool} {t n n' : Nat} {q q' : Nat → Nat → List Nat} {m m' : Nat → Nat} (h : SSt S y Y w g lim cut t n q m) (hk : KFs S S') (hT : HT S' t n' q' m') (hm : ∀ i, i < n' → m' i < 128) : SSt S' y Y w g lim cut t n' q' m' := by
  obtain ⟨s1, s2, s3, s4, s5, s6, s7, s8⟩ := h
  obtain ⟨k1, k2, k3⟩ := hk
  refine ⟨⟨by rw [k2]; exact s1.1, by rw [k1 6 (by decide)]; exact s1.2.1, by rw [k1 7 (by decide)]; exact s1.2.2.1, s1.2.2.2⟩, s2.fr k3 (fun f h1 h2 q => by rcases q with q | q | q | q <;> omega), hT, by rw [k1 8 (by decide)]; exact s4, by rw [k1 9 (by decide)]; exact s5, by rw [k1 10 (by decide)]; exact s6, by rw [k1 11 (by decide)]; exact s7, hm⟩
theorem c_arrive (l : Launch) (S : qSt) {y : Nat} {Y : YD} {w : Nat} {g : Option Nat} {P0 : Nat → List Nat} {lim : Nat} {cut : Bool} {t n hd xb x : Nat} {q : Nat → Nat → List Nat} {d m : Nat → Nat} {D : Nat → (Nat → List Nat) → Prop} {Q : Nat → List Nat} (hY : y_ok Y) (hP : p_ok Y P0) (hw : fitW Y w P0) (hl : lim ≤ 20000) (hS : SSt S y Y w g lim cut t n q m) (hC : CBs Y w g P0 lim cut q d m hd n xb D) (hx : xb ≤ x) (hx2 : x < 128) (hE : mvE Y w g (q hd) x Q) : q_Met q_mt l 4 k_X5_arrive 0 [.inr (.inr (29, 0)), .inr (.inl (lN (es Q))), .inl (nI (d hd + 1)), .inl (nI (by9 d m hd x))] S (fun _ S' => fr Fsr S S' ∧ ((rch Q g = true ∧ q_I S' 29 0 10 = nI (d hd + 1) ∧ q_I S' 29 0 11 = nI (by9 d m hd x) ∧ TS S' t) ∨ (¬ rch Q g = true ∧ ∃ cut' n' q' d' m', SSt S' y Y w g lim cut' t n' q' m' ∧ CBs Y w g P0 lim cut' q' d' m' hd n' x (fun y u => D y u ∨ (y = x ∧ u = Q)) ∧ Gw q d m n q' d' m' n' hd))) := by
  have hcap := CB_cap hY hP hw hC
  have hhd := hC.2.1
  have hdi := hC.2.2.1 hd hhd
  have hQ := RSx_mv hY (CB_rs hY hP hw hC hhd) hE
  have hb : by9 d m hd x < 128 := by
    unfold by9
    split
    · exact hx2
    · exact hS.2.2.2.2.2.2.2 hd hhd
  have hst : ∀ i, i < n → st_ok (q i) := fun i hi => (CB_rs hY hP hw hC hi).1.1
  have hle := lst_le hQ.1 g
  have hS0 := hS
  obtain ⟨s1, s2, s3, s4, s5, s6, s7, s8⟩ := hS
  refine q_meth zoX5_arrive q_fos (Nat.le_of_ble_eq_true rfl) ?_
  intro AT step
  refine step 40 [] 0 _ _ _ ?_
  simp only [q_vcs, q_vcc, q_vl, q_vu, ↓reduceIte, Nat.reduceEqDiff, Bool.false_eq_true, q_isc, q_mk, q_msk, zbX5_arrive, q_pad, q_ent, q_get, q_put, q_nl, q_w, List.cons_append, List.nil_append, q_aks, q_als, Nat.reduceAdd, Nat.reduceLeDiff, Nat.zero_le, true_and, and_true, Option.some.injEq, Sum.inl.injEq, Sum.inr.injEq, true_or, or_true, and_self, q_sw]
  refine q_u1 (by decide) (c_isReached l S s1 hQ.1.1) ?_
  rw [bI_0]
  refine ⟨fun h => ?_, fun h => ?_⟩
  · have hng : ¬ rch Q g = true := by rw [h]; decide
    refine q_u1 (by decide) (c_leastFrom l S s1 hY s2 hQ.1) ?_
    rw [s4, nI_add, nI_leI (by omega) (by omega)]
    refine ⟨fun h2 => ?_, fun h2 => ?_⟩
    · by_cases e : ∃ i, i < n ∧ q i = Q
      · obtain ⟨i0, hi0, he⟩ := e
        refine q_u0 (by decide) (c_keepO l S s3 (by omega) hst hQ.1.1 hi0 he) ?_
        refine ⟨fr.rf, Or.inr ⟨hng, cut, n, q, d, m, hS0, ?_, Gw.rf⟩⟩
        have := CB_old hC hx hi0
        rw [he] at this
        exact this
      · have hne : ∀ j, j < n → q j ≠ Q := fun j hj he => e ⟨j, hj, he⟩
        refine ⟨_, _, (by decide : 1 < 4), c_keepN l S s3 (by omega) hst hQ.1.1 hb (fun i hi he => hne i hi (p_es hY (CB_rs hY hP hw hC hi).1 hQ.1 he)), fun S' h' => ?_⟩
        obtain ⟨h3, h4⟩ := h'
        refine ⟨h4.2.2, Or.inr ⟨hng, cut, n + 1, up q n Q, up d n (d hd + 1), up m n (by9 d m hd x), hS0.fr h4 h3 (fun i hi => ?_), CB_push hC hx hE hne hng h2, Gw.push⟩⟩
        by_cases z : i = n
        · rw [z, up_eq]; exact hb
        · rw [up_ne z]; exact s8 i (by omega)
    · refine ⟨fr.wI fr.rf (Or.inl rfl), Or.inr ⟨hng, true, n, q, d, m, ?_, CB_cut hC hx hng (by omega), Gw.rf⟩⟩
      refine ⟨?_, s2.fr (F := Fsr) (fr.wI fr.rf (Or.inl rfl)) (fun f h1 h2 q => by rcases q with q | q | q | q <;> omega), s3.wI (by decide) (by decide), ?_, ?_, ?_, ?_, s8⟩
      · refine ⟨s1.1, ?_, ?_, s1.2.2.2⟩
        · rw [q_I_wI, if_neg (by omega)]; exact s1.2.1
        · rw [q_I_wI, if_neg (by omega)]; exact s1.2.2.1
      · rw [q_I_wI, if_neg (by omega)]; exact s4
      · rw [q_I_wI, if_pos ⟨rfl, rfl, rfl⟩]; rfl
      · rw [q_I_wI, if_neg (by omega)]; exact s6
      · rw [q_I_wI, if_neg (by omega)]; exact s7
  · have hg : rch Q g = true := by simpa using h
    refine ⟨fr.wI (fr.wI fr.rf (Or.inl rfl)) (Or.inl rfl), Or.inl ⟨hg, ?_, ?_, (s3.ts.wI (by decide)).wI (by decide)⟩⟩
    · rw [q_I_wI, if_neg (by omega), q_I_wI, if_pos ⟨rfl, rfl, rfl⟩]
    · rw [q_I_wI, if_pos ⟨rfl, rfl, rfl⟩]
