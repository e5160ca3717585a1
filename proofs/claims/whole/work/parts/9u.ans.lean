/-! Answers of both sides -/
theorem q_Thr.post {mt : Nat → Option qM} {l : Launch} {d k rt : Nat} {as : List qV} {S : qSt} {xp xp' : String → qSt → Prop} (h : q_Thr mt l d k rt as S xp) (hx : ∀ E S', xp E S' → xp' E S') : q_Thr mt l d k rt as S xp' := by
  intro G q hq
  intro p e h1 h2 h3 s m args below h4 h5 h6 h7
  obtain ⟨n, o, a1, a2, a3, b⟩ := h G q hq p e h1 h2 h3 s m args below h4 h5 h6 h7
  refine ⟨n, o, a1, a2, a3, ?_⟩
  rcases b with b | ⟨q9, b1, E, ce, L, ⟨⟨S', c1, c2⟩, c3⟩, c4⟩
  · exact Or.inl b
  · exact Or.inr ⟨q9, b1, E, ce, L, ⟨⟨S', hx E S' c1, c2⟩, c3⟩, c4⟩
/-- a block that begins with a call that throws -/
def XCl (l : Launch) (d : Nat) (code : List (List qO)) (xp : String → qSt → Prop) (b : Nat) (_ : qLs) (st : List qV) (S : qSt) : Prop := ∃ pc a n r9 z zl w1 f os as i0 d' r8, q_nth code b = (44, pc, a, n, r9, z, zl, [(w1, f)]) :: os ∧ (st.take n).reverse = .inr (.inr (f, i0)) :: as ∧ n ≤ st.length ∧ q_w (st.drop n) ≤ 8 ∧ d' < d ∧ q_Thr q_mt l d' a r8 (.inr (.inr (f, i0)) :: as) S xp
theorem q_methC {l : Launch} {d k rt nL : Nat} {own : String} {K : qK} {B : List Nat} {code : List (List qO)} (hok : q_mok q_mt k own K B code rt nL) {as : List qV} {S : qSt} {xp : String → qSt → Prop} (hsz : (q_ent as).length ≤ nL)
    (h : ∀ AT : Nat → qLs → List qV → qSt → Prop, (∀ n cuts b ls st S, q_run q_mt l d rt (q_vc q_mt l d rt q_no code cuts AT n) q_no (q_nth code b) ls st S → AT b ls st S) → (∀ b ls st S, XCl l d code xp b ls st S → AT b ls st S) → AT 0 (q_pad nL (q_ent as)) [] S) : q_Thr q_mt l d k rt as S xp := by
  refine q_methT hok q_fos hsz (XCl l d code xp) ?_ h
  intro G q p e R s m args below meth c hq Z b ls st S1 hck hX
  obtain ⟨pc, a, n, r9, z, zl, w1, f, os, as9, i0, d', r8, h1, h2, h3, h4, h5, h6⟩ := hX
  rw [h1] at hck
  exact q_tcall Z hck h2 h3 h4 h5 h6
abbrev SPR : Type := (Nat ⊕ Int32) × AS
def nmI : Nat → String := fun _ => sIA
def nmC : Nat → String := fun c => if c = 1 then sNS else sIA
def CA (l : Launch) (k : Nat) (as : List qV) (S : qSt) (t : Nat) (nm : Nat → String) (r : SPR) : Prop := ∃ d, d ≤ 60 ∧ match r.1 with
  | .inl c => q_Thr q_mt l d k 1 as S (fun E S' => E = nm c ∧ CL S' t r.2 ∧ fr Fcl S S')
  | .inr v => q_Met q_mt l d k 1 as S (fun x S' => x = some (.inl v) ∧ (∃ t', t' ≤ t + 25 ∧ CL S' t' r.2) ∧ fr Fcl S S')
def spV : Nat ⊕ Int32 → Int32
  | .inl _ => 0
  | .inr v => v
def spC : Nat ⊕ Int32 → Nat
  | .inl c => c
  | .inr _ => 0
def RA (l : Launch) (k : Nat) (as : List qV) (S : qSt) (r : SPR) : Prop := ∃ d, d ≤ 60 ∧ q_Met q_mt l d k 1 as S (fun x S' => x = some (.inl (spV r.1)) ∧ q_I S' 40 0 0 = nI (spC r.1) ∧ RF S' r.2 ∧ fr Frf S S')
theorem HR_w0 {S : qSt} {p w j : Nat} {h : Nat → PV} {v : Int32} (hh : HR S p w h) : HR (q_wI S 0 0 j v) p w h := hh.fr (F := fun f _ => f = 0) (fr.wI fr.rf rfl) (by decide) (fun i _ => ⟨by decide, by decide⟩)
theorem CL.w0 {S : qSt} {t : Nat} {a : AS} {j : Nat} {v : Int32} {rs rn ri : Nat} (h : CL S t a) (hj : j = 13 ∨ j = 14 ∨ j = 15) (h8 : CL8 (q_wI S 0 0 j v) rs rn ri) : CL (q_wI S 0 0 j v) t (mkA (aY a) (aC a) (aLn a) (aOi a) (aW a) (aH a) (aNi a) (aIm a) (aT a) (aHd a) (aFp a) rs rn ri) := by
  obtain ⟨h1, h2, h3, h4, h5, h6, h7, _, h9⟩ := h
  have hf : fr (fun f _ => f = 0) S (q_wI S 0 0 j v) := fr.wI fr.rf rfl
  refine ⟨⟨h1.1, h1.2.1, h1.2.2.1, h1.2.2.2.fr hf (fun f h1 _ q => by have : f = 0 := q; omega)⟩, ⟨h2.1, h2.2.1, h2.2.2.1, LC.fr h2.2.2.2 hf (by decide) (by decide)⟩, ⟨h3.1, h3.2.1, h3.2.2.1, h3.2.2.2.fr9 hf (by decide)⟩, HR_w0 h4, ⟨?_, fun i hi => HR_w0 (h5.2 i hi)⟩, h6.fr hf (by decide) (by decide), h7, h8, h9.fr hf (by decide) (by decide)⟩
  rw [q_I_wI, if_neg (by omega)]
  exact h5.1
theorem CL.xi {S : qSt} {t : Nat} {a : AS} (h : CL S t a) : CL (q_wI S 0 0 15 (q_I S 0 0 15 + 1)) t (aXi a) ∧ fr Fcl S (q_wI S 0 0 15 (q_I S 0 0 15 + 1)) := by
  obtain ⟨k1, k2, k3⟩ := h.2.2.2.2.2.2.2.1
  refine ⟨h.w0 (Or.inr (Or.inr rfl)) ⟨?_, ?_, ?_⟩, fr.wI fr.rf (by decide)⟩
  · rw [q_I_wI, if_neg (by omega)]; exact k1
  · rw [q_I_wI, if_neg (by omega)]; exact k2
  · rw [q_I_wI, if_pos ⟨rfl, rfl, rfl⟩, k3, nI_1]
theorem CL.xn {S : qSt} {t : Nat} {a : AS} (h : CL S t a) : CL (q_wI S 0 0 14 (q_I S 0 0 14 + 1)) t (aXn a) ∧ fr Fcl S (q_wI S 0 0 14 (q_I S 0 0 14 + 1)) := by
  obtain ⟨k1, k2, k3⟩ := h.2.2.2.2.2.2.2.1
  refine ⟨h.w0 (Or.inr (Or.inl rfl)) ⟨?_, ?_, ?_⟩, fr.wI fr.rf (by decide)⟩
  · rw [q_I_wI, if_neg (by omega)]; exact k1
  · rw [q_I_wI, if_pos ⟨rfl, rfl, rfl⟩, k2, nI_1]
  · rw [q_I_wI, if_neg (by omega)]; exact k3
theorem c_needX (l : Launch) (hl : l.stackTraces = false) {S : qSt} {t : Nat} {a : AS} (h : CL S t a) (nm : Nat → String) (c : Nat) (hn : nm c = sIA) : q_Thr q_mt l 6 k_X10_need 0 [.inr (.inr (0, 0)), .inl 0] S (fun E S' => E = nm c ∧ CL S' t (aXi a) ∧ fr Fcl S S') :=
  (c_needT l hl S).post (fun E S' hx => by rw [hx.1, hx.2, hn]; exact ⟨rfl, h.xi⟩)
theorem c_needLaneX (l : Launch) (hl : l.stackTraces = false) {S : qSt} {t : Nat} {a : AS} (h : CL S t a) {x : Int32} (hx : ¬ (0 ≤ x ∧ x ≤ nI (aY a 0 0) - 1)) : q_Thr q_mt l 6 k_X10_needLane 0 [.inr (.inr (0, 0)), .inl x] S (fun E S' => E = nmC 1 ∧ CL S' t (aXn a) ∧ fr Fcl S S') :=
  (c_needLaneT l hl S (by rw [h.1.2.2.2.1.1]; exact hx)).post (fun E S' hx => by rw [hx.1, hx.2]; exact ⟨rfl, h.xn⟩)
theorem c_needCarX (l : Launch) (hl : l.stackTraces = false) {S : qSt} {t : Nat} {a : AS} (h : CL S t a) {x : Int32} (hx : ¬ (0 ≤ x ∧ x ≤ nI (aY a 1 0) - 1)) : q_Thr q_mt l 6 k_X10_needCar 0 [.inr (.inr (0, 0)), .inl x] S (fun E S' => E = nmC 1 ∧ CL S' t (aXn a) ∧ fr Fcl S S') :=
  (c_needCarT l hl S (by rw [h.1.2.2.2.1.2.1]; exact hx)).post (fun E S' hx => by rw [hx.1, hx.2]; exact ⟨rfl, h.xn⟩)
/-- the reference: thrown is set, a refusal told -/
theorem frf40 {S S1 : qSt} (h : fr Frf S S1) {f i j : Nat} {v : Int32} (hf : 40 ≤ f ∧ f < 80) : fr Frf S (q_wI S1 f i j v) := fr.wI h hf
theorem RF.cg {S S' : qSt} {a : AS} (h : RF S a) (hf : fr (fun f _ => f = 40) S S') (hk : ∀ j, j = 1 ∨ j = 3 ∨ j = 19 ∨ (33 ≤ j ∧ j ≤ 36) ∨ j = 47 → q_I S' 40 0 j = q_I S 40 0 j) : RF S' a := by
  obtain ⟨h1, h2, h3, h4, h5, h6, h7, h8, h9⟩ := h
  refine ⟨h1.fr hf (fun _ => by decide) (fun _ => by decide) (fun _ => by decide) (fun _ => by decide), ?_, ?_, ⟨?_, h4.2.1.fr hf (by decide), fun j hj => (h4.2.2 j hj).fr hf (by decide)⟩, ⟨?_, fun i hi => ?_⟩, ⟨?_, ?_⟩, ?_, ?_, ?_⟩
  · rcases h2 with ⟨q1, q2⟩ | ⟨q1, q2, q3⟩
    · exact Or.inl ⟨q1, by rw [hk 19 (by omega)]; exact q2⟩
    · exact Or.inr ⟨q1, by rw [hk 19 (by omega)]; exact q2, fun k hk => by rw [(hf 54 k (by simp)).1]; exact q3 k hk⟩
  · obtain ⟨m, w, o, ⟨k1, k2, k3⟩, k4⟩ := h3
    exact ⟨m, w, o, ⟨by rw [hk 33 (by omega)]; exact k1, k2, fun z hz => by rw [(hf 58 z (by simp)).1]; exact k3 z hz⟩, k4⟩
  · rw [hk 34 (by omega)]; exact h4.1
  · rw [hk 36 (by omega)]; exact h5.1
  · unfold MI
    rw [(hf 68 i (by simp)).1]
    exact h5.2 i hi
  · rw [hk 1 (by omega)]; exact h6.1
  · rw [(hf 41 0 (by decide)).1]; exact h6.2
  · rw [hk 3 (by omega)]; exact h7
  · unfold RF8
    rw [hk 35 (by omega), (hf 42 0 (by decide)).1]
    exact h8
  · rw [hk 47 (by omega)]; exact h9
theorem RF.th {S : qSt} {a : AS} {v : Int32} (h : RF S a) : RF (q_wI S 40 0 0 v) a := h.cg (fr.wI fr.rf rfl) (fun j hj => by rw [q_I_wI, if_neg (by omega)])
theorem RF.w42 {S : qSt} {a : AS} {r : Nat} {v : Int32} {rs rn ri : Nat} (h : RF S a) (h8 : RF8 (q_wI S 42 0 r v) rs rn ri) : RF (q_wI S 42 0 r v) (mkA (aY a) (aC a) (aLn a) (aOi a) (aW a) (aH a) (aNi a) (aIm a) (aT a) (aHd a) (aFp a) rs rn ri) := by
  obtain ⟨h1, h2, h3, h4, h5, h6, h7, _, h9⟩ := h
  have hf : fr (fun f _ => f = 42) S (q_wI S 42 0 r v) := fr.wI fr.rf rfl
  refine ⟨h1.fr hf (fun _ => by decide) (fun _ => by decide) (fun _ => by decide) (fun _ => by decide), h2.fr hf (by decide) (fun _ => by decide), ?_, ⟨h4.1, h4.2.1.fr hf (by decide), fun j hj => (h4.2.2 j hj).fr hf (by decide)⟩, ⟨h5.1, fun i hi => ?_⟩, ⟨h6.1, h6.2⟩, h7, h8, h9⟩
  · obtain ⟨m, w, o, k1, k2⟩ := h3
    exact ⟨m, w, o, k1.fr9 hf (by decide) (fun _ => by decide), k2⟩
  · unfold MI
    rw [(hf 68 i (by simp)).1]
    exact h5.2 i hi
theorem RF.bad {S : qSt} {a : AS} (h : RF S a) (w : Nat) : (RF (q_wI (q_wI (q_wI S 40 0 0 0) 40 0 0 (nI w)) 42 0 1 (q_I (q_wI S 40 0 0 0) 42 0 1 + 1)) (aXi a) ∧ RF (q_wI (q_wI (q_wI S 40 0 0 0) 40 0 0 (nI w)) 42 0 0 (q_I (q_wI S 40 0 0 0) 42 0 0 + 1)) (aXn a)) := by
  have h2 : RF (q_wI (q_wI S 40 0 0 0) 40 0 0 (nI w)) a := h.th.th
  obtain ⟨k1, k2, k3⟩ := h.2.2.2.2.2.2.2.1
  refine ⟨h2.w42 ⟨?_, ?_, ?_⟩, h2.w42 ⟨?_, ?_, ?_⟩⟩
  · simp only [q_I_wI, Nat.reduceEqDiff, false_and, and_false, if_false]; exact k1
  · simp only [q_I_wI, Nat.reduceEqDiff, false_and, and_false, if_false]; exact k2
  · simp only [q_I_wI, Nat.reduceEqDiff, false_and, and_false, if_false, and_self, if_true]; rw [k3, nI_1]
  · simp only [q_I_wI, Nat.reduceEqDiff, false_and, and_false, if_false]; exact k1
  · simp only [q_I_wI, Nat.reduceEqDiff, false_and, and_false, if_false, and_self, if_true]; rw [k2, nI_1]
  · simp only [q_I_wI, Nat.reduceEqDiff, false_and, and_false, if_false]; exact k3
theorem c_mbY (l : Launch) (S : qSt) {w r : Nat} (hw : 1 ≤ w ∧ w ≤ 2) (hr : r < 2) : q_Met q_mt l 0 k_X11_bad 1 [.inr (.inr (40, 0)), .inl 1, .inl (nI w), .inl (nI r)] (q_wI S 40 0 0 0) (fun v S' => v = some (.inl 1) ∧ S' = q_wI (q_wI (q_wI S 40 0 0 0) 40 0 0 (nI w)) 42 0 r (q_I (q_wI S 40 0 0 0) 42 0 r + 1)) := by
  have := c_mbad l (q_wI S 40 0 0 0) true (t := 0) (by rw [q_I_wI, if_pos ⟨rfl, rfl, rfl⟩]; rfl) (by decide) hw hr
  exact this
theorem c_mbN (l : Launch) (S : qSt) {w r : Nat} (hw : 1 ≤ w ∧ w ≤ 2) (hr : r < 2) : q_Met q_mt l 0 k_X11_bad 1 [.inr (.inr (40, 0)), .inl 0, .inl (nI w), .inl (nI r)] (q_wI S 40 0 0 0) (fun v S' => v = some (.inl 0) ∧ S' = q_wI S 40 0 0 0) := by
  have := c_mbad l (q_wI S 40 0 0 0) false (t := 0) (by rw [q_I_wI, if_pos ⟨rfl, rfl, rfl⟩]; rfl) (by decide) hw hr
  exact this
