/-! the reference: work goes on -/
def RI (Y : YD) (cd : List Tok) (E : Nat → Nat → Int32) (o j j' : Nat) (X : WF) : Prop := ∀ P : Nat → Nat → Nat → WF → Prop, (∀ o j, P o j j id) →
  (∀ o j j' k a b c X, E j 0 = nI k → k ≤ 3 → (k ≤ 1 → E j 1 = nI a) → (k ≤ 2 → E j 2 = nI b) → (k = 1 → E j 3 = nI c) → E j 4 = nI (j + 1) → j < 80 → sok Y k a b c → P o (j + 1) j' X → P o j j' (fun s => X (stf Y cd k a b c s))) →
  (∀ o j m j' N Xb X, E j 0 = nI 4 → E j 1 = nI N → N ≤ 30 → E j 4 = nI m → j < m → m ≤ 80 → P o (j + 1) m Xb → P (o + 1) m j' X → P (o + 1) j j' (fun s => X (agf N Xb s))) → P o j j' X
section RIS
variable {Y : YD} {cd : List Tok} {E E' : Nat → Nat → Int32}
theorem RI.nil (o j : Nat) : RI Y cd E o j j id := fun _ h1 _ _ => h1 o j
theorem RI.one {o j k a b c : Nat} (h0 : E j 0 = nI k) (hk : k ≤ 3) (h1 : k ≤ 1 → E j 1 = nI a) (h2 : k ≤ 2 → E j 2 = nI b) (h3 : k = 1 → E j 3 = nI c) (h4 : E j 4 = nI (j + 1)) (hj : j < 80) (ho : sok Y k a b c) : RI Y cd E o j (j + 1) (stf Y cd k a b c) := fun _ p1 p2 _ => p2 o j (j + 1) k a b c id h0 hk h1 h2 h3 h4 hj ho (p1 o (j + 1))
theorem RI.ag {o j m N : Nat} {Xb : WF} (h0 : E j 0 = nI 4) (h1 : E j 1 = nI N) (hN : N ≤ 30) (h4 : E j 4 = nI m) (hm : j < m) (hm2 : m ≤ 80) (hb : RI Y cd E o (j + 1) m Xb) : RI Y cd E (o + 1) j m (agf N Xb) := fun P p1 p2 p3 => p3 o j m m N Xb id h0 h1 hN h4 hm hm2 (hb P p1 p2 p3) (p1 (o + 1) m)
theorem RI.seq {o j m j' : Nat} {X X' : WF} (h : RI Y cd E o j m X) (h' : RI Y cd E o m j' X') : RI Y cd E o j j' (fun s => X' (X s)) := by
  intro P p1 p2 p3
  refine h (fun o0 j0 m0 X0 => ∀ j' X', P o0 m0 j' X' → P o0 j0 j' (fun s => X' (X0 s))) ?_ ?_ ?_ j' X' (h' P p1 p2 p3)
  · intro o j j' X' hp
    exact hp
  · intro o j j' k a b c X h0 hk h1 h2 h3 h4 hj ho ih j2 X' hp
    exact p2 o j j2 k a b c _ h0 hk h1 h2 h3 h4 hj ho (ih j2 X' hp)
  · intro o j m j' N Xb X h0 h1 hN h4 hm hm2 ib ih j2 X' hp
    exact p3 o j m j2 N Xb _ h0 h1 hN h4 hm hm2 (ib m id (p1 o m)) (ih j2 X' hp)
theorem RI.cong {o j j' : Nat} {X : WF} (h : RI Y cd E o j j' X) (he : ∀ i q, j ≤ i → i < j' → E' i q = E i q) : RI Y cd E' o j j' X := by
  have key : j ≤ j' ∧ ((∀ i q, j ≤ i → i < j' → E' i q = E i q) → RI Y cd E' o j j' X) := by
    refine h (fun o j j' X => j ≤ j' ∧ ((∀ i q, j ≤ i → i < j' → E' i q = E i q) → RI Y cd E' o j j' X)) ?_ ?_ ?_
    · intro o j
      exact ⟨Nat.le_refl j, fun _ => RI.nil o j⟩
    · intro o j j' k a b c X h0 hk h1 h2 h3 h4 hj ho ih
      refine ⟨by omega, fun he => ?_⟩
      have hx := ih.2 (fun i q h1 h2 => he i q (by omega) h2)
      have h1' := RI.one (E := E') (Y := Y) (cd := cd) (o := o) (j := j) (k := k) (a := a) (b := b) (c := c) (by rw [he j 0 (by omega) (by omega)]; exact h0) hk (fun q => by rw [he j 1 (by omega) (by omega)]; exact h1 q) (fun q => by rw [he j 2 (by omega) (by omega)]; exact h2 q) (fun q => by rw [he j 3 (by omega) (by omega)]; exact h3 q) (by rw [he j 4 (by omega) (by omega)]; exact h4) hj ho
      exact h1'.seq hx
    · intro o j m j' N Xb X h0 h1 hN h4 hm hm2 ib ih
      refine ⟨by omega, fun he => ?_⟩
      have hx := ih.2 (fun i q h1 h2 => he i q (by omega) h2)
      have hb := ib.2 (fun i q h1 h2 => he i q (by omega) (by omega))
      have h1' := RI.ag (E := E') (Y := Y) (cd := cd) (o := o) (j := j) (m := m) (N := N) (Xb := Xb) (by rw [he j 0 (by omega) (by omega)]; exact h0) (by rw [he j 1 (by omega) (by omega)]; exact h1) hN (by rw [he j 4 (by omega) (by omega)]; exact h4) hm hm2 hb
      exact h1'.seq hx
  exact key.2 he
end RIS
theorem mlw_of {S S' : qSt} {c : List Tok} (h : MLW S c) (h1 : q_I S' 40 0 19 = q_I S 40 0 19) (h2 : ∀ k, q_I S' 54 k = q_I S 54 k) : MLW S' c := by
  unfold MLW MLC at *
  rw [h1]
  rcases h with h | ⟨h, h3, h4⟩
  · exact Or.inl h
  · refine Or.inr ⟨h, h3, fun k hk => ?_⟩
    rw [h2 k]
    exact h4 k hk
abbrev Fgo : Nat → Nat → Prop := fun f k => (f = 65 ∧ k = 0) ∨ f = 61 ∨ f = 62 ∨ f = 40
/-- the store in the midst of work -/
def WIm (S : qSt) (Y : YD) (s : WS) (S2 : qSt) : Prop := wgd Y s ∧ RV S2 0 s.2.2.2 ∧ (q_I S2 40 0 38 = nI s.1 ∧ q_I S2 40 0 39 = nI s.2.1 ∧ q_I S2 40 0 35 = nI s.2.2.1) ∧ (∀ j, j ≠ 38 → j ≠ 39 → j ≠ 35 → q_I S2 40 0 j = q_I S 40 0 j) ∧ fr Fgo S S2
set_option maxHeartbeats 4000000 in
theorem c_mgoesOn (l : Launch) (S : qSt) {o j j' : Nat} {Y : YD} {cd : List Tok} {X : WF} (hY : y_ok Y) (hM : MY S Y) (hw : lwf cd) (hL : MLW S cd) (hRI : RI Y cd (fun i q => q_I S 64 i q) o j j' X) (hj' : j' ≤ 80) : ∀ s S2, WIm S Y s S2 → q_Met q_mt l (6 + o) k_X11_goesOn 0 [.inr (.inr (40, 0)), .inl (nI j), .inl (nI j')] S2 (fun _ S3 => WIm S Y (X s) S3) := by
  have my : ∀ {S1 : qSt}, fr Fgo S S1 → MY S1 Y := fun hf => hM.fr hf (fun _ h => by omega) (fun _ h => by omega) (fun _ h => by omega) (fun _ h => by omega)
  have k0 : Int32.toNatClampNeg 0 = 0 := rfl
  have k1 : Int32.toNatClampNeg 1 = 1 := rfl
  have k4 : Int32.toNatClampNeg 4 = 4 := rfl
  have v5 : ∀ k, k < 5 → vp_in (nI k) 5 := fun k hk => i_in hk (by decide)
  have main := hRI (fun o j j' X => j ≤ j' ∧ stab X ∧ (∀ s, wgd Y s → wgd Y (X s)) ∧ (j' ≤ 80 → ∀ (Phi : WS) (AT : Nat → qLs → List qV → qSt → Prop), (∀ n cuts b ls st S3, q_run q_mt l (6 + o) 0 (q_vc q_mt l (6 + o) 0 (fun _ S3 => WIm S Y Phi S3) zX11_goesOn cuts AT n) (fun _ S3 => WIm S Y Phi S3) (q_nth zX11_goesOn b) ls st S3 → AT b ls st S3) → ∀ (fm : Int32) s S2, WIm S Y s S2 → X s = Phi → AT 1 [some (.inr (.inr (40, 0))), some (.inl fm), some (.inl (nI j')), some (.inl (nI j)), none] [] S2)) ?_ ?_ ?_
  · obtain ⟨m1, m2, m3, m4⟩ := main
    intro s S2 hI
    refine q_meth zoX11_goesOn q_fos (Nat.le_of_ble_eq_true rfl) ?_
    intro AT step
    refine step 20 [(1, [true, true, true, true, false])] 0 _ _ _ ?_
    simp only [q_vcs, q_vcc, q_vl, q_vu, ↓reduceIte, Nat.reduceEqDiff, Bool.false_eq_true, q_isc, q_mk, q_msk, zbX11_goesOn, q_pad, q_ent, q_get, q_put, q_nl, q_w, List.cons_append, List.nil_append, q_aks, q_als, Nat.reduceAdd, Nat.reduceLeDiff, Nat.zero_le, true_and, and_true, Option.some.injEq, Sum.inl.injEq, Sum.inr.injEq, true_or, or_true, and_self, q_sw]
    exact m4 hj' (X s) AT step (nI j) s S2 hI rfl
  · intro o j
    refine ⟨Nat.le_refl _, fun _ _ => rfl, fun _ h => h, fun hj Phi AT step fm s S2 hI hPhi => ?_⟩
    have hPhi : s = Phi := hPhi
    refine step 40 [(1, [true, true, true, true, false]), (2, [true, true, true, true, true]), (9, [true, true, true, true, false])] 1 _ _ _ ?_
    simp only [q_vcs, q_vcc, q_vl, q_vu, ↓reduceIte, Nat.reduceEqDiff, Bool.false_eq_true, q_isc, q_mk, q_msk, zbX11_goesOn, q_pad, q_ent, q_get, q_put, q_nl, q_w, List.cons_append, List.nil_append, q_aks, q_als, Nat.reduceAdd, Nat.reduceLeDiff, Nat.zero_le, true_and, and_true, Option.some.injEq, Sum.inl.injEq, Sum.inr.injEq, true_or, or_true, and_self, q_sw]
    rw [nI_leI (by omega) (by omega)]
    refine ⟨fun _ => ?_, fun h => absurd (Nat.le_refl _) h⟩
    rw [← hPhi]
    exact hI
  · intro o j j' k a b c X h0 hk h1 h2 h3 h4 hj ho ih
    obtain ⟨i1, i2, i3, i4⟩ := ih
    refine ⟨by omega, fun s hs => by dsimp only; rw [stab_stf Y cd k a b c s hs]; exact i2 s hs, fun s hs => i3 _ (wgd_stf hY ho hs), fun hj' Phi AT step fm s S2 hI hPhi => ?_⟩
    have hs := hI.1.1
    have hE : ∀ q, q_I S2 64 j q = q_I S 64 j q := fun q => by rw [(hI.2.2.2.2 64 j (by omega)).1]
    have at1 : ∀ S4, WIm S Y (stf Y cd k a b c s) S4 → AT 9 [some (.inr (.inr (40, 0))), some (.inl fm), some (.inl (nI j')), some (.inl (nI j)), none] [] S4 := by
      intro S4 hI4
      refine step 40 [(1, [true, true, true, true, false])] 9 _ _ _ ?_
      simp only [q_vcs, q_vcc, q_vl, q_vu, ↓reduceIte, Nat.reduceEqDiff, Bool.false_eq_true, q_isc, q_mk, q_msk, zbX11_goesOn, q_pad, q_ent, q_get, q_put, q_nl, q_w, List.cons_append, List.nil_append, q_aks, q_als, Nat.reduceAdd, Nat.reduceLeDiff, Nat.zero_le, true_and, and_true, Option.some.injEq, Sum.inl.injEq, Sum.inr.injEq, true_or, or_true, and_self, q_sw]
      have e4 : q_I S4 64 j 4 = nI (j + 1) := by rw [(hI4.2.2.2.2 64 j (by omega)).1]; exact h4
      rw [i_cl (by omega), k4, e4]
      exact ⟨i_in (by omega) (by decide), v5 4 (by decide), i4 hj' Phi AT step fm _ S4 hI4 hPhi⟩
    refine step 40 [(1, [true, true, true, true, false]), (2, [true, true, true, true, true]), (9, [true, true, true, true, false])] 1 _ _ _ ?_
    simp only [q_vcs, q_vcc, q_vl, q_vu, ↓reduceIte, Nat.reduceEqDiff, Bool.false_eq_true, q_isc, q_mk, q_msk, zbX11_goesOn, q_pad, q_ent, q_get, q_put, q_nl, q_w, List.cons_append, List.nil_append, q_aks, q_als, Nat.reduceAdd, Nat.reduceLeDiff, Nat.zero_le, true_and, and_true, Option.some.injEq, Sum.inl.injEq, Sum.inr.injEq, true_or, or_true, and_self, q_sw]
    have e38 := hI.2.2.1.1
    rw [nI_leI (by omega) (by omega), e38, show (200 : Int32) = nI 200 from rfl, nI_leI (by decide) (by omega), nI_1]
    refine ⟨fun h => absurd h (by omega), fun _ => ⟨fun hb => ?_, fun hb => ?_⟩⟩
    · have e : X (stf Y cd k a b c s) = s := by
        rw [stab_stf Y cd k a b c s hb]
        exact i2 s hb
      dsimp only at hPhi
      rw [e] at hPhi
      rw [← hPhi]
      exact hI
    have f0 : q_I (q_wI S2 40 0 38 (nI (s.1 + 1))) 64 j 0 = nI k := by
      show q_I S2 64 j 0 = _
      rw [hE]; exact h0
    rw [i_cl (by omega), k0, f0, show (4 : Int32) = nI 4 from rfl, nI_eq (by omega) (by decide)]
    refine ⟨i_in (by omega) (by decide), v5 0 (by decide), fun _ => ⟨i_in (by omega) (by decide), ?_⟩, fun h => absurd h (by omega)⟩
    have hf3 : fr Fgo S (q_wI S2 40 0 38 (nI (s.1 + 1))) := fr.wI hI.2.2.2.2 (by omega)
    have hfo : fr (fun f _ => f = 40) S2 (q_wI S2 40 0 38 (nI (s.1 + 1))) := fr.wI (F := fun f _ => f = 40) fr.rf rfl
    have hSR : SR (q_wI S2 40 0 38 (nI (s.1 + 1))) j k a b c := ⟨f0, fun q => by show q_I S2 64 j 1 = _; rw [hE]; exact h1 q, fun q => by show q_I S2 64 j 2 = _; rw [hE]; exact h2 q, fun q => by show q_I S2 64 j 3 = _; rw [hE]; exact h3 q⟩
    have hML : MLW (q_wI S2 40 0 38 (nI (s.1 + 1))) cd := mlw_of hL (by rw [q_I_wI, if_neg (by omega)]; exact hI.2.2.2.1 19 (by decide) (by decide) (by decide)) (fun k => (hf3 54 k (by omega)).1)
    refine ⟨_, _, (show 5 < 6 + o by omega), c_mdoes l _ hY (my hf3) hI.1.2 (hI.2.1.fr hfo (by omega)) hSR ho hk hw hML, fun v S4 h4' => ?_⟩
    obtain ⟨hv, g1, g2⟩ := h4'
    cases hv
    have c40 : ∀ q, q_I S4 40 0 q = if q = 38 then nI (s.1 + 1) else q_I S2 40 0 q := fun q => by
      rw [(g2 40 0 (by omega)).1, q_I_wI]
      by_cases e : q = 38
      · simp [e]
      · simp [e]
    have c39 : q_I S4 40 0 39 = nI s.2.1 := by rw [c40]; exact hI.2.2.1.2.1
    have hwg := wgd_stf hY (cd := cd) ho hI.1
    have fin : ∀ (d9 r9 : Int32), d9 = nI (stf Y cd k a b c s).2.1 → r9 = nI (stf Y cd k a b c s).2.2.1 → WIm S Y (stf Y cd k a b c s) (q_wI (q_wI S4 40 0 39 d9) 40 0 35 r9) := by
      intro d9 r9 hd hr
      have hRV : RV (q_wI (q_wI S4 40 0 39 d9) 40 0 35 r9) 0 ((stp Y cd k a b c s.2.2.2).getD s.2.2.2) := g1.fr (F := fun f _ => f = 40) (fr.wI (F := fun f _ => f = 40) (fr.wI (F := fun f _ => f = 40) fr.rf rfl) rfl) (by omega)
      have hst : (stf Y cd k a b c s).1 = s.1 + 1 ∧ (stf Y cd k a b c s).2.2.2 = (stp Y cd k a b c s.2.2.2).getD s.2.2.2 := by
        unfold stf
        rw [if_neg (by omega)]
        cases stp Y cd k a b c s.2.2.2 with
        | none => exact ⟨rfl, rfl⟩
        | some V' => exact ⟨rfl, rfl⟩
      refine ⟨hwg, by rw [hst.2]; exact hRV, ⟨?_, ?_, ?_⟩, fun q q1 q2 q3 => ?_, ?_⟩
      · rw [q_I_wI, if_neg (by omega), q_I_wI, if_neg (by omega), c40, hst.1]; rfl
      · rw [q_I_wI, if_neg (by omega), q_I_wI, if_pos ⟨rfl, rfl, rfl⟩]; exact hd
      · rw [q_I_wI, if_pos ⟨rfl, rfl, rfl⟩]; exact hr
      · rw [q_I_wI, if_neg (by omega), q_I_wI, if_neg (by omega), c40, if_neg q1]
        exact hI.2.2.2.1 q q1 q2 q3
      · exact fr.wI (fr.wI (hf3.tr (g2.mn fun f k h => by rcases h with h | h | h; exact Or.inl h; exact Or.inr (Or.inl h); exact Or.inr (Or.inr (Or.inl h)))) (by omega)) (by omega)
    have hstf : (stp Y cd k a b c s.2.2.2).isSome = true → (stf Y cd k a b c s).2.1 = s.2.1 + 1 ∧ (stf Y cd k a b c s).2.2.1 = s.2.2.1 := fun h => by
      unfold stf
      rw [if_neg (by omega)]
      cases hq : stp Y cd k a b c s.2.2.2 with
      | none => rw [hq] at h; cases h
      | some V' => exact ⟨rfl, rfl⟩
    have hstn : (stp Y cd k a b c s.2.2.2).isSome = false → (stf Y cd k a b c s).2.1 = s.2.1 ∧ (stf Y cd k a b c s).2.2.1 = s.2.2.1 + 1 := fun h => by
      unfold stf
      rw [if_neg (by omega)]
      cases hq : stp Y cd k a b c s.2.2.2 with
      | none => exact ⟨rfl, rfl⟩
      | some V' => rw [hq] at h; cases h
    have c35 : ∀ d9, q_I (q_wI S4 40 0 39 d9) 40 0 35 = nI s.2.2.1 := fun d9 => by
      rw [q_I_wI, if_neg (by omega), c40]; exact hI.2.2.1.2.2
    rw [bI_0, c39]
    cases hq : (stp Y cd k a b c s.2.2.2).isSome with
    | true =>
      obtain ⟨z1, z2⟩ := hstf hq
      refine ⟨fun h => (by cases h), fun _ => ⟨fun h => (by cases h), fun _ => ?_⟩⟩
      rw [c35, nI_1, show (0 : Int32) = nI 0 from rfl, nI_add]
      exact at1 _ (fin _ _ (by rw [z1]) (by rw [z2]; rfl))
    | false =>
      obtain ⟨z1, z2⟩ := hstn hq
      refine ⟨fun _ => ⟨fun _ => ?_, fun h => absurd rfl h⟩, fun h => absurd rfl h⟩
      rw [c35, nI_1, show (0 : Int32) = nI 0 from rfl, nI_add]
      exact at1 _ (fin _ _ (by rw [z1]; rfl) (by rw [z2]))
  · intro o j m j' N Xb X h0 h1 hN h4 hjm hm ib ih
    obtain ⟨b1, b2, b3, b4⟩ := ib
    obtain ⟨i1, i2, i3, i4⟩ := ih
    have wit : ∀ n s, wgd Y s → wgd Y (itr Xb n s) := by
      intro n
      induction n with
      | zero => intro s h; exact h
      | succ n ihn => intro s h; exact ihn _ (b3 s h)
    refine ⟨by omega, fun s hs => by dsimp only; rw [stab_agf N Xb s hs]; exact i2 s hs, fun s hs => i3 _ ?_, fun hj' Phi AT step fm s S2 hI hPhi => ?_⟩
    · unfold agf
      split
      · exact hs
      · exact wit N _ ⟨by show s.1 + 1 ≤ 200; omega, hs.2⟩
    have hs := hI.1.1
    have call : ∀ s S2, WIm S Y s S2 → q_Met q_mt l (6 + o) k_X11_goesOn 0 [.inr (.inr (40, 0)), .inl (nI (j + 1)), .inl (nI m)] S2 (fun _ S3 => WIm S Y (Xb s) S3) := by
      intro s S2 hI
      refine q_meth zoX11_goesOn q_fos (Nat.le_of_ble_eq_true rfl) ?_
      intro AT step
      refine step 20 [(1, [true, true, true, true, false])] 0 _ _ _ ?_
      simp only [q_vcs, q_vcc, q_vl, q_vu, ↓reduceIte, Nat.reduceEqDiff, Bool.false_eq_true, q_isc, q_mk, q_msk, zbX11_goesOn, q_pad, q_ent, q_get, q_put, q_nl, q_w, List.cons_append, List.nil_append, q_aks, q_als, Nat.reduceAdd, Nat.reduceLeDiff, Nat.zero_le, true_and, and_true, Option.some.injEq, Sum.inl.injEq, Sum.inr.injEq, true_or, or_true, and_self, q_sw]
      exact b4 hm (Xb s) AT step (nI (j + 1)) s S2 hI rfl
    have at9 : ∀ s S4, WIm S Y s S4 → X s = Phi → AT 9 [some (.inr (.inr (40, 0))), some (.inl fm), some (.inl (nI j')), some (.inl (nI j)), none] [] S4 := by
      intro s S4 hI4 hP4
      refine step 40 [(1, [true, true, true, true, false])] 9 _ _ _ ?_
      simp only [q_vcs, q_vcc, q_vl, q_vu, ↓reduceIte, Nat.reduceEqDiff, Bool.false_eq_true, q_isc, q_mk, q_msk, zbX11_goesOn, q_pad, q_ent, q_get, q_put, q_nl, q_w, List.cons_append, List.nil_append, q_aks, q_als, Nat.reduceAdd, Nat.reduceLeDiff, Nat.zero_le, true_and, and_true, Option.some.injEq, Sum.inl.injEq, Sum.inr.injEq, true_or, or_true, and_self, q_sw]
      have e4 : q_I S4 64 j 4 = nI m := by rw [(hI4.2.2.2.2 64 j (by omega)).1]; exact h4
      rw [i_cl (by omega), k4, e4]
      exact ⟨i_in (by omega) (by decide), v5 4 (by decide), i4 hj' Phi AT step fm _ S4 hI4 hP4⟩
    have loop : ∀ (r k : Nat), k + r = N → ∀ s S3, WIm S Y s S3 → X (itr Xb r s) = Phi → AT 2 [some (.inr (.inr (40, 0))), some (.inl fm), some (.inl (nI j')), some (.inl (nI j)), some (.inl (nI k))] [] S3 := by
      intro r
      induction r with
      | zero =>
        intro k hk s S3 hI3 hP3
        have e1 : q_I S3 64 j 1 = nI N := by rw [(hI3.2.2.2.2 64 j (by omega)).1]; exact h1
        refine step 40 [(1, [true, true, true, true, false]), (2, [true, true, true, true, true]), (9, [true, true, true, true, false])] 2 _ _ _ ?_
        simp only [q_vcs, q_vcc, q_vl, q_vu, ↓reduceIte, Nat.reduceEqDiff, Bool.false_eq_true, q_isc, q_mk, q_msk, zbX11_goesOn, q_pad, q_ent, q_get, q_put, q_nl, q_w, List.cons_append, List.nil_append, q_aks, q_als, Nat.reduceAdd, Nat.reduceLeDiff, Nat.zero_le, true_and, and_true, Option.some.injEq, Sum.inl.injEq, Sum.inr.injEq, true_or, or_true, and_self, q_sw]
        rw [i_cl (by omega), k1, e1, nI_leI (by omega) (by omega)]
        exact ⟨i_in (by omega) (by decide), v5 1 (by decide), fun _ => at9 s S3 hI3 hP3, fun h => absurd (by omega) h⟩
      | succ r ihr =>
        intro k hk s S3 hI3 hP3
        have hs3 := hI3.1.1
        have e1 : q_I S3 64 j 1 = nI N := by rw [(hI3.2.2.2.2 64 j (by omega)).1]; exact h1
        have e4 : q_I S3 64 j 4 = nI m := by rw [(hI3.2.2.2.2 64 j (by omega)).1]; exact h4
        refine step 40 [(1, [true, true, true, true, false]), (2, [true, true, true, true, true]), (9, [true, true, true, true, false])] 2 _ _ _ ?_
        simp only [q_vcs, q_vcc, q_vl, q_vu, ↓reduceIte, Nat.reduceEqDiff, Bool.false_eq_true, q_isc, q_mk, q_msk, zbX11_goesOn, q_pad, q_ent, q_get, q_put, q_nl, q_w, List.cons_append, List.nil_append, q_aks, q_als, Nat.reduceAdd, Nat.reduceLeDiff, Nat.zero_le, true_and, and_true, Option.some.injEq, Sum.inl.injEq, Sum.inr.injEq, true_or, or_true, and_self, q_sw]
        rw [i_cl (by omega), k1, k4, e1, e4, nI_leI (by omega) (by omega), hI3.2.2.1.1, show (200 : Int32) = nI 200 from rfl, nI_leI (by decide) (by omega), nI_1]
        refine ⟨i_in (by omega) (by decide), v5 1 (by decide), fun h => absurd h (by omega), fun _ => ⟨fun hb => ?_, fun hb => ?_⟩⟩
        · refine at9 s S3 hI3 ?_
          rw [stab_itr b2 (r + 1) s hb] at hP3
          exact hP3
        · refine ⟨i_in (by omega) (by decide), v5 4 (by decide), _, _, (show 6 + o < 6 + (o + 1) by omega), call s S3 hI3, fun S4 hI4 => ?_⟩
          rw [nI_1]
          exact ihr (k + 1) (by omega) (Xb s) S4 hI4 hP3
    refine step 40 [(1, [true, true, true, true, false]), (2, [true, true, true, true, true]), (9, [true, true, true, true, false])] 1 _ _ _ ?_
    simp only [q_vcs, q_vcc, q_vl, q_vu, ↓reduceIte, Nat.reduceEqDiff, Bool.false_eq_true, q_isc, q_mk, q_msk, zbX11_goesOn, q_pad, q_ent, q_get, q_put, q_nl, q_w, List.cons_append, List.nil_append, q_aks, q_als, Nat.reduceAdd, Nat.reduceLeDiff, Nat.zero_le, true_and, and_true, Option.some.injEq, Sum.inl.injEq, Sum.inr.injEq, true_or, or_true, and_self, q_sw]
    have e38 := hI.2.2.1.1
    have f0 : q_I (q_wI S2 40 0 38 (nI (s.1 + 1))) 64 j 0 = nI 4 := by
      show q_I S2 64 j 0 = _
      rw [(hI.2.2.2.2 64 j (by omega)).1]; exact h0
    rw [nI_leI (by omega) (by omega), e38, show (200 : Int32) = nI 200 from rfl, nI_leI (by decide) (by omega), nI_1, i_cl (by omega), k0, f0]
    refine ⟨fun h => absurd h (by omega), fun _ => ⟨fun hb => ?_, fun hb => ⟨i_in (by omega) (by decide), v5 0 (by decide), fun h => absurd rfl h, fun _ => ?_⟩⟩⟩
    · have e : X (agf N Xb s) = s := by
        rw [stab_agf N Xb s hb]
        exact i2 s hb
      dsimp only at hPhi
      rw [e] at hPhi
      rw [← hPhi]
      exact hI
    · dsimp only at hPhi
      unfold agf at hPhi
      rw [if_neg (by omega)] at hPhi
      refine loop N 0 (by omega) (s.1 + 1, s.2) _ ⟨⟨by show s.1 + 1 ≤ 200; omega, hI.1.2⟩, hI.2.1.fr (F := fun f _ => f = 40) (fr.wI (F := fun f _ => f = 40) fr.rf rfl) (by omega), ⟨?_, ?_, ?_⟩, fun q q1 q2 q3 => ?_, fr.wI hI.2.2.2.2 (by omega)⟩ hPhi
      · rw [q_I_wI, if_pos ⟨rfl, rfl, rfl⟩]
      · rw [q_I_wI, if_neg (by omega)]; exact hI.2.2.1.2.1
      · rw [q_I_wI, if_neg (by omega)]; exact hI.2.2.1.2.2
      · rw [q_I_wI, if_neg (by omega)]; exact hI.2.2.2.1 q q1 q2 q3
