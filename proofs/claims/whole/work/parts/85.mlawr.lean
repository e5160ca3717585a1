/-! the reference: a unit; the whole law -/
theorem no_word {T : Nat → Nat} {n b : Nat} (h : tb T n isl b = false) : fct T b (tx T n isl b) = none ∧ two T b (tx T n isl b) = none := by
  rw [tx_f h]
  have e : seg T b b = [] := by unfold seg; simp
  unfold fct two
  rw [e]
  exact ⟨by decide, by decide⟩
theorem isl_40 {T : Nat → Nat} {n b : Nat} (h : hr T n b = some 40) : tb T n isl b = false := by
  rw [tb_hr, h]
  rfl
theorem isl_dig {T : Nat → Nat} {n b : Nat} (h : tb T n isd b = true) : tb T n isl b = false := by
  have := tb_lt h
  unfold tb
  unfold isd at this
  unfold isl
  simp at this ⊢
  omega
theorem two_not {T : Nat → Nat} {n b k : Nat} (h : two T b (tx T n isl b) = some k) : ¬ hr T n b = some 40 ∧ ¬ tb T n isd b = true ∧ fct T b (tx T n isl b) = none := by
  refine ⟨fun q => ?_, fun q => ?_, ?_⟩
  · rw [(no_word (isl_40 q)).2] at h; cases h
  · rw [(no_word (isl_dig q)).2] at h; cases h
  · unfold two at h
    unfold fct
    split at h
    · rename_i e; rw [e]; decide
    · split at h
      · rename_i e; rw [e]; decide
      · cases h
theorem fct_not {T : Nat → Nat} {n b k : Nat} (h : fct T b (tx T n isl b) = some k) : ¬ hr T n b = some 40 ∧ ¬ tb T n isd b = true := by
  refine ⟨fun q => ?_, fun q => ?_⟩
  · rw [(no_word (isl_40 q)).1] at h; cases h
  · rw [(no_word (isl_dig q)).1] at h; cases h
/-- a row's last token, its open one closed -/
theorem lm_close {S S' : qSt} {T : Nat → Nat} {n o : Nat} {x : PS × List Tok} {v : Int32} (h1 : MS S' T n x.1) (h2 : LmP S' x.1 x.2) (h3 : x.1.isLeft = true → v = nI o) (h4 : MlQ S S') : LmQ T n o x S (q_wI S' 40 0 8 v) := by
  refine ⟨ms_w h1 (fun j hj => by rw [q_I_wI, if_neg (by omega)]) rfl, fun b hb => ?_, fun h => ?_, h4.1 |> fun g => ⟨fun j a b c => by rw [q_I_wI, if_neg (by omega)]; exact g j a b c, fr.wI h4.2 (Or.inl rfl)⟩⟩
  · obtain ⟨g1, g2, g3⟩ := h2 b hb
    exact ⟨by rw [q_I_wI, if_neg (by omega)]; exact g1, g2, g3⟩
  · rw [q_I_wI, if_pos ⟨rfl, rfl, rfl⟩]
    exact h3 h
set_option maxHeartbeats 4000000 in
theorem lm_one {l : Launch} {T : Nat → Nat} {n : Nat} (hn : n ≤ 150) (f : Nat) (ih : LmC l T n 0 k_X11_sum f E0) : LmC l T n 4 k_X11_one (f + 1) E4 := by
  intro o s c x S hx ho hR hc hop
  have hD5 : 5 < E4 o := by unfold E4; omega
  have hD3 : 3 < E4 o := by omega
  have hD2 : 2 < E4 o := by omega
  have hD1 : 1 < E4 o := by omega
  have hD0 : 0 < E4 o := by omega
  refine q_meth zoX11_one q_fos (Nat.le_of_ble_eq_true rfl) ?_
  intro AT step
  cases s with
  | inr q =>
    cases hx
    refine step 20 [(4, [true, false, false])] 0 _ _ _ ?_
    simp only [q_vcs, q_vcc, q_vl, q_vu, ↓reduceIte, Nat.reduceEqDiff, Bool.false_eq_true, q_isc, q_mk, q_msk, zbX11_one, q_pad, q_ent, q_get, q_put, q_nl, q_w, List.cons_append, List.nil_append, q_aks, q_als, Nat.reduceAdd, Nat.reduceLeDiff, Nat.zero_le, true_and, and_true, Option.some.injEq, Sum.inl.injEq, Sum.inr.injEq, true_or, or_true, and_self, q_sw]
    rw [ms_0 hR]
    exact ⟨fun h => (by cases h), fun _ => ⟨hR, (fun b hb => by cases hb), (fun h => by cases h), MlQ.rf⟩⟩
  | inl a =>
    have hx : lp T n (f + 1) 4 o a c = some x := hx
    have hR : MD S T n a none := hR
    have hop := hop rfl
    have hn6 := hR.1
    have hge := tx_ge T n isb a
    have hle : tx T n isb a ≤ n := tx_le hn6.2.1
    have hge2 := tx_ge T n isl (tx T n isb a)
    have hle2 : tx T n isl (tx T n isb a) ≤ n := tx_le hle
    have et := tx_tx T n isb a
    obtain ⟨c1, c2, c3⟩ := hc a rfl
    have lmS : ∀ {S1 : qSt} {b : Nat}, ME S S1 → c.length ≤ b → LmP S1 (.inl b) c := fun {S1 b} hE hb b' hb' => by
      cases hb'
      obtain ⟨g1, g2, g3⟩ := lmp_e hc hE a rfl
      exact ⟨g1, hb, g3⟩
    have t13 : ∀ k, two T (tx T n isb a) (tx T n isl (tx T n isb a)) = some k → ∀ S1, MD S1 T n (tx T n isb a) none → ME S S1 → AT 4 [some (.inr (.inr (40, 0))), none, none] [.inl (nI k)] S1 := by
      intro k ht S1 hR1 hE1
      obtain ⟨h40, hd, hf⟩ := two_not ht
      have htw := two_lt ht
      refine step 40 [(6, [true, true, false])] 4 _ _ _ ?_
      simp only [q_vcs, q_vcc, q_vl, q_vu, ↓reduceIte, Nat.reduceEqDiff, Bool.false_eq_true, q_isc, q_mk, q_msk, zbX11_one, q_pad, q_ent, q_get, q_put, q_nl, q_w, List.cons_append, List.nil_append, q_aks, q_als, Nat.reduceAdd, Nat.reduceLeDiff, Nat.zero_le, true_and, and_true, Option.some.injEq, Sum.inl.injEq, Sum.inr.injEq, true_or, or_true, and_self, q_sw]
      refine ⟨fun h => absurd h (i_ne1 (by omega)), fun _ => ?_⟩
      have ho1 : q_I S1 40 0 8 = nI o := by rw [hE1.1 8 (by decide)]; exact hop
      refine ⟨_, _, hD1, c_mopensOne l S1 hR1 ho1 ho, fun v S2 h2 => ?_⟩
      obtain ⟨hv, g1, g2, g3, g4⟩ := h2
      cases hv
      rw [bI_0]
      by_cases h6 : o < 6
      · rw [if_pos h6] at g1
        rw [decide_eq_true h6]
        refine ⟨fun _ => ?_, fun h => (by cases h)⟩
        have hQ2 : MlQ S S2 := (MlQ.e hE1).tr ⟨fun j a b _ => g3 j a b, g4.mn fun f k h => Or.inl h⟩
        rw [lp_4u h40 hd hf ht (by omega)] at hx
        refine ⟨_, _, hD1, c_mskipWord l S2 g1, fun S3 h3 => ?_⟩
        refine ⟨_, _, hD2, c_msign l S3 (c := 91) (s := .inl _) h3.1 (by decide), fun S4 h4 => ?_⟩
        have hE4 := h3.2.tr h4.2
        have key : ∃ y z, lpS T n f 0 (o + 1) (psg T n 91 (.inl (tx T n isl (tx T n isb a)))) c = some y ∧ lpS T n f 0 (o + 1) (psg T n 44 y.1) y.2 = some z ∧ x.1 = psg T n 93 z.1 ∧ (x.1.isLeft = true → x.2 = z.2 ++ [(k, 0)]) := by
          rcases andT_cases hx with ⟨b1, c1, e1, h2⟩ | ⟨q, c1, e1, h2⟩
          · have e1a : psg T n 91 (.inl (tx T n isl (tx T n isb a))) = .inl b1 := by
              have := congrArg (fun x => x.map Prod.fst) e1
              simpa using this
            have e1b : c = c1 := by
              have := congrArg (fun x => x.map Prod.snd) e1
              simpa using this
            subst e1b
            rw [e1a]
            rcases andT_cases h2 with ⟨b2, c2, e2, h3⟩ | ⟨q, c2, e2, h3⟩
            · rcases andT_cases h3 with ⟨b3, c3, e3, h5⟩ | ⟨q, c3, e3, h5⟩
              · have e3a : psg T n 44 (.inl b2) = .inl b3 := by
                  have := congrArg (fun x => x.map Prod.fst) e3
                  simpa using this
                have e3b : c2 = c3 := by
                  have := congrArg (fun x => x.map Prod.snd) e3
                  simpa using this
                subst e3b
                rcases andT_cases h5 with ⟨b4, c4, e4, h7⟩ | ⟨q, c4, e4, h7⟩
                · refine ⟨_, _, e2, (by rw [e3a]; exact e4), ?_, fun _ => ?_⟩
                  · cases h7; rfl
                  · cases h7; rfl
                · refine ⟨_, _, e2, (by rw [e3a]; exact e4), ?_, fun h => ?_⟩
                  · rw [h7]; rfl
                  · rw [h7] at h; cases h
              · have e3a : psg T n 44 (.inl b2) = .inr q := by
                  have := congrArg (fun x => x.map Prod.fst) e3
                  simpa using this
                refine ⟨_, (.inr q, c2), e2, (by rw [e3a]; rfl), ?_, fun h => ?_⟩
                · rw [h5]; rfl
                · rw [h5] at h; cases h
            · refine ⟨_, (.inr q, c2), e2, rfl, ?_, fun h => ?_⟩
              · rw [h3]; rfl
              · rw [h3] at h; cases h
          · have e1a : psg T n 91 (.inl (tx T n isl (tx T n isb a))) = .inr q := by
              have := congrArg (fun x => x.map Prod.fst) e1
              simpa using this
            rw [e1a]
            refine ⟨(.inr q, c), (.inr q, c), rfl, rfl, ?_, fun h => ?_⟩
            · rw [h2]; rfl
            · rw [h2] at h; cases h
        obtain ⟨y, z, hy, hz, e1, e2⟩ := key
        have q20 : q_I S4 40 0 20 = nI c.length := by
          rw [hE4.1 20 (by decide), g3 20 (by decide) (by decide), hE1.1 20 (by decide)]
          exact c1
        have q8 : q_I S4 40 0 8 = nI (o + 1) := by rw [hE4.1 8 (by decide)]; exact g2 h6
        have q56 : ∀ k, q_I S4 56 k = q_I S 56 k := fun k => by
          rw [(hE4.2 56 k (fun q => by cases q)).1, (g4 56 k (fun q => by cases q)).1, (hE1.2 56 k (fun q => by cases q)).1]
        have hc4 : LmP S4 (psg T n 91 (.inl (tx T n isl (tx T n isb a)))) c := fun b hb => by
          obtain ⟨b1, w1, w2, -⟩ := psg_lt hb
          cases w1
          exact ⟨q20, by omega, fun k hk => by rw [q56 k]; exact c3 k hk⟩
        refine ⟨_, _, (show E0 (o + 1) < E4 o by unfold E0 E4; omega), ih (o + 1) _ c y S4 hy (by omega) h4.1 hc4 (fun _ => q8), fun S5 h5 => ?_⟩
        obtain ⟨r1, r2, r3, r4⟩ := h5
        refine ⟨_, _, hD2, c_msign l S5 (c := 44) r1 (by decide), fun S6 h6' => ?_⟩
        have hc6 : LmP S6 (psg T n 44 y.1) y.2 := fun b hb => by
          obtain ⟨b1, w1, w2, -⟩ := psg_lt hb
          have := lmp_e r2 h6'.2 b1 w1
          exact ⟨this.1, by omega, this.2.2⟩
        refine ⟨_, _, (show E0 (o + 1) < E4 o by unfold E0 E4; omega), ih (o + 1) _ y.2 z S6 hz (by omega) h6'.1 hc6 (fun hl => by rw [h6'.2.1 8 (by decide)]; exact r3 (psg_left hl)), fun S7 h7 => ?_⟩
        obtain ⟨u1, u2, u3, u4⟩ := h7
        refine ⟨_, _, hD2, c_msign l S7 (c := 93) u1 (by decide), fun S8 h8 => ?_⟩
        rw [← e1] at h8
        have hz8 : ∀ b, x.1 = .inl b → ∃ b1, z.1 = .inl b1 ∧ b1 < b ∧ q_I S8 40 0 20 = nI z.2.length ∧ z.2.length ≤ b1 ∧ ∀ k, k < z.2.length → q_I S8 56 k 0 = nI (z.2.getD k (0, 0)).1 ∧ q_I S8 56 k 1 = nI (z.2.getD k (0, 0)).2 := fun b hb => by
          rw [e1] at hb
          obtain ⟨b1, w1, w2, -⟩ := psg_lt hb
          have := lmp_e u2 h8.2 b1 w1
          exact ⟨b1, w1, w2, this.1, this.2.1, this.2.2⟩
        have hx8 : ∀ b, x.1 = .inl b → b ≤ n := fun b hb => by
          have := h8.1
          rw [hb] at this
          exact (show MD S8 T n b none from this).1.2.1
        refine ⟨_, _, hD0, c_mnotes l S8 (m := z.2.length) (a := k) (b := 0) h8.1 (fun hl => ?_), fun S9 h9 => ?_⟩
        · cases hxl : x.1 with
          | inr q => rw [hxl] at hl; cases hl
          | inl b =>
            obtain ⟨b1, w1, w2, w3, w4, w5⟩ := hz8 b hxl
            have := hx8 b hxl
            exact ⟨w3, by omega⟩
        obtain ⟨t1, t2, t3⟩ := h9
        have hM9 : MS S9 T n x.1 := ms_w h8.1 (fun j hj => t2 j (by omega)) (t3 41 0 (by omega)).1
        have hQ9 : MlQ S S9 := (((((hQ2.tr (MlQ.e hE4)).tr r4).tr (MlQ.e h6'.2)).tr u4).tr (MlQ.e h8.2)).tr ⟨fun j _ _ h => t2 j h, t3⟩
        refine lm_close hM9 ?_ (fun hl => ?_) hQ9
        · cases hxl : x.1 with
          | inr q => exact fun b hb => by cases hb
          | inl b0 =>
            rw [hxl] at t1 e2
            rw [e2 rfl]
            refine lmp_tok (S := S8) (t := (k, 0)) (fun b hb => ?_) t1
            cases hb
            obtain ⟨b1, w1, w2, w3, w4, w5⟩ := hz8 b0 hxl
            exact ⟨w3, by omega, w5⟩
        · have hzl : z.1.isLeft = true := by rw [e1] at hl; exact psg_left hl
          rw [t2 8 (by decide), h8.2.1 8 (by decide), u3 hzl, i_m1]
      · rw [if_neg h6] at g1
        rw [decide_eq_false h6]
        refine ⟨fun h => absurd rfl h, fun _ => ?_⟩
        rw [lp_4t h40 hd hf ht (by omega)] at hx
        cases hx
        exact ⟨⟨_, g1⟩, (fun b hb => by cases hb), (fun h => by cases h), (MlQ.e hE1).tr ⟨fun j a b _ => g3 j a b, g4.mn fun f k h => Or.inl h⟩⟩
    have rest : two T (tx T n isb a) (tx T n isl (tx T n isb a)) = none → ∀ S1, MD S1 T n (tx T n isb a) none → ME S S1 → AT 4 [some (.inr (.inr (40, 0))), none, none] [.inl (-1)] S1 := by
      intro ht S1 hR1 hE1
      refine step 40 [] 4 _ _ _ ?_
      simp only [q_vcs, q_vcc, q_vl, q_vu, ↓reduceIte, Nat.reduceEqDiff, Bool.false_eq_true, q_isc, q_mk, q_msk, zbX11_one, q_pad, q_ent, q_get, q_put, q_nl, q_w, List.cons_append, List.nil_append, q_aks, q_als, Nat.reduceAdd, Nat.reduceLeDiff, Nat.zero_le, true_and, and_true, Option.some.injEq, Sum.inl.injEq, Sum.inr.injEq, true_or, or_true, and_self, q_sw]
      refine ⟨fun _ => ?_, fun h => absurd trivial h⟩
      rw [hR1.2.1.2.1]
      refine q_u1 hD0 (c_mbyteAt l S1 (k := tx T n isb a) hR1 (by omega)) ?_
      rw [show (40 : Int32) = nI 40 from rfl, mhr_eq hR1 (by decide)]
      have ho1 : q_I S1 40 0 8 = nI o := by rw [hE1.1 8 (by decide)]; exact hop
      refine ⟨fun h40 => ?_, fun h40 => ?_⟩
      · refine ⟨_, _, hD5, c_mknownHere l S1 hR1, fun v S2 h2 => ?_⟩
        obtain ⟨hv, g1, g2⟩ := h2
        cases hv
        rw [et] at g1 ⊢
        have hE2 := hE1.tr g2
        cases hf : fct T (tx T n isb a) (tx T n isl (tx T n isb a)) with
        | some k =>
          rw [hf] at g1
          have hk8 := fct_lt hf
          have hno := fct_not hf
          rw [lp_4f h40 hno.2 hf] at hx
          cases hx
          refine ⟨fun h => absurd h (i_ne1 (by omega)), fun _ => ?_⟩
          refine ⟨_, _, hD0, c_mnotes l S2 (s := .inl _) (m := c.length) (a := 1) (b := k) g1 (fun _ => ⟨by rw [hE2.1 20 (by decide)]; exact c1, by omega⟩), fun S3 h3 => ?_⟩
          obtain ⟨t1, t2, t3⟩ := h3
          refine ⟨ms_w (s := .inl _) g1 (fun j hj => t2 j (by omega)) (t3 41 0 (by omega)).1, lmp_tok (S := S2) (t := (1, k)) (fun b hb => ?_) t1, fun _ => by rw [t2 8 (by decide), hE2.1 8 (by decide)]; exact hop, (MlQ.e hE2).tr ⟨fun j _ _ h => t2 j h, t3⟩⟩
          cases hb
          have := lmS hE2 (b := tx T n isl (tx T n isb a)) (by omega) _ rfl
          exact ⟨this.1, by omega, this.2.2⟩
        | none =>
          rw [hf] at g1
          have g1 : MD S2 T n (tx T n isb a) none := g1
          refine ⟨fun _ => ?_, fun h => absurd rfl h⟩
          refine ⟨_, _, hD2, c_mnumber l S2 (lo := 0) (h := 1000) (s := .inl (tx T n isb a)) g1 rfl (by decide) (by decide) (by decide), fun v S3 h3 => ?_⟩
          obtain ⟨hv, g3, g4⟩ := h3
          cases hv
          have hE3 := hE2.tr g4
          have hlen : ∀ b, pnm T n 0 1000 (.inl (tx T n isb a)) = .inl b → tx T n isb a < b ∧ b ≤ n := fun b hb => by
            obtain ⟨b1, w1, w2, w3⟩ := pnm_lt hb
            cases w1
            exact ⟨w2, w3 hle⟩
          refine ⟨_, _, hD0, c_mnotes l S3 (m := c.length) (a := 0) g3 (fun hl => ⟨by rw [hE3.1 20 (by decide)]; exact c1, ?_⟩), fun S4 h4 => ?_⟩
          · cases hp : pnm T n 0 1000 (.inl (tx T n isb a)) with
            | inr q => rw [hp] at hl; cases hl
            | inl b => have := hlen b hp; omega
          obtain ⟨t1, t2, t3⟩ := h4
          have hM4 : MS S4 T n (pnm T n 0 1000 (.inl (tx T n isb a))) := ms_w g3 (fun j hj => t2 j (by omega)) (t3 41 0 (by omega)).1
          have hQ4 : MlQ S S4 := (MlQ.e hE3).tr ⟨fun j _ _ h => t2 j h, t3⟩
          have h84 : q_I S4 40 0 8 = nI o := by rw [t2 8 (by decide), hE3.1 8 (by decide)]; exact hop
          by_cases hd : tb T n isd (tx T n isb a) = true
          · rw [lp_4d h40 hd] at hx
            cases hx
            refine ⟨hM4, ?_, fun _ => h84, hQ4⟩
            show LmP S4 (pnm T n 0 1000 (.inl (tx T n isb a))) _
            cases hp : pnm T n 0 1000 (.inl (tx T n isb a)) with
            | inr q => exact fun b hb => by cases hb
            | inl b0 =>
              rw [hp] at t1
              refine lmp_tok (S := S3) (t := (0, nmN T n (tx T n isb a))) (fun b hb => ?_) t1
              cases hb
              have := lmS hE3 (b := b0) (by have := hlen b0 hp; omega) _ rfl
              exact ⟨this.1, by have := hlen b0 hp; omega, this.2.2⟩
          · rw [lp_4n h40 hd hf ht] at hx
            cases hx
            have hA : nmA T n (tx T n isb a) = tx T n isb (tx T n isb a) := by
              unfold nmA
              rw [et]
              exact tx_f (ts_nt hd)
            have hno : nmE T n (tx T n isb a) 0 1000 none = some (1, tx T n isb a) := by
              unfold nmE
              rw [if_pos hA, et]
              rfl
            rw [pnm_no hno] at hM4
            exact ⟨hM4, (fun b hb => by cases hb), (fun h => by cases h), hQ4⟩
      · refine ⟨_, _, hD1, c_mopensOne l S1 hR1 ho1 ho, fun v S2 h2 => ?_⟩
        obtain ⟨hv, g1, g2, g3, g4⟩ := h2
        cases hv
        rw [bI_0]
        have hb40 := (hr_some h40).1
        have hQ2 : MlQ S S2 := (MlQ.e hE1).tr ⟨fun j a b _ => g3 j a b, g4.mn fun f k h => Or.inl h⟩
        by_cases h6 : o < 6
        · rw [if_pos h6] at g1
          rw [decide_eq_true h6, g1.2.1.2.1, nI_1]
          refine ⟨fun _ => ?_, fun h => (by cases h)⟩
          rw [lp_4c h40 (by omega)] at hx
          have key : ∃ y, lpS T n f 0 (o + 1) (.inl (tx T n isb a + 1)) c = some y ∧ x.1 = psg T n 41 y.1 ∧ (x.1.isLeft = true → x.2 = y.2) := by
            rcases andT_cases hx with ⟨b, c1, h1, h2⟩ | ⟨q, c1, h1, h2⟩
            · refine ⟨_, h1, ?_, fun _ => ?_⟩
              · cases h2; rfl
              · cases h2; rfl
            · exact ⟨_, h1, by rw [h2]; rfl, fun h => by rw [h2]⟩
          obtain ⟨y, hy, e1, e2⟩ := key
          have hE3 : ME S2 (q_wI S2 40 0 4 (nI (tx T n isb a + 1))) := ME.rf.w (by decide)
          have q20 : q_I S2 40 0 20 = nI c.length := by rw [g3 20 (by decide) (by decide), hE1.1 20 (by decide)]; exact c1
          have q56 : ∀ k, q_I S2 56 k = q_I S 56 k := fun k => by rw [(g4 56 k (fun q => by cases q)).1, (hE1.2 56 k (fun q => by cases q)).1]
          have hc3 : LmP (q_wI S2 40 0 4 (nI (tx T n isb a + 1))) (.inl (tx T n isb a + 1)) c := fun b hb => by
            cases hb
            exact ⟨by rw [q_I_wI, if_neg (by omega)]; exact q20, by omega, fun k hk => by
              show q_I S2 56 k 0 = _ ∧ q_I S2 56 k 1 = _
              rw [q56 k]; exact c3 k hk⟩
          refine ⟨_, _, (show E0 (o + 1) < E4 o by unfold E0 E4; omega), ih (o + 1) _ c y _ hy (by omega) (show MS _ T n (.inl _) from g1.at (by omega)) hc3 (fun _ => by rw [q_I_wI, if_neg (by omega)]; exact g2 h6), fun S4 h4 => ?_⟩
          obtain ⟨r1, r2, r3, r4⟩ := h4
          refine ⟨_, _, hD2, c_msign l S4 (c := 41) r1 (by decide), fun S5 h5 => ?_⟩
          rw [← e1] at h5
          refine lm_close h5.1 (fun b hb => ?_) (fun hl => ?_) (((hQ2.tr (MlQ.e hE3)).tr r4).tr (MlQ.e h5.2))
          · have hl := isL hb
            rw [e2 hl]
            rw [e1] at hb
            obtain ⟨b1, w1, w2, -⟩ := psg_lt hb
            have := lmp_e r2 h5.2 b1 w1
            exact ⟨this.1, by omega, this.2.2⟩
          · have hyl : y.1.isLeft = true := by rw [e1] at hl; exact psg_left hl
            rw [h5.2.1 8 (by decide), r3 hyl, i_m1]
        · rw [if_neg h6] at g1
          rw [decide_eq_false h6]
          refine ⟨fun h => absurd rfl h, fun _ => ?_⟩
          rw [lp_4b h40 (by omega)] at hx
          cases hx
          exact ⟨⟨_, g1⟩, (fun b hb => by cases hb), (fun h => by cases h), hQ2⟩
    refine step 20 [(4, [true, false, false])] 0 _ _ _ ?_
    simp only [q_vcs, q_vcc, q_vl, q_vu, ↓reduceIte, Nat.reduceEqDiff, Bool.false_eq_true, q_isc, q_mk, q_msk, zbX11_one, q_pad, q_ent, q_get, q_put, q_nl, q_w, List.cons_append, List.nil_append, q_aks, q_als, Nat.reduceAdd, Nat.reduceLeDiff, Nat.zero_le, true_and, and_true, Option.some.injEq, Sum.inl.injEq, Sum.inr.injEq, true_or, or_true, and_self, q_sw]
    rw [mek_0 hR]
    refine ⟨fun _ => ?_, fun h => absurd rfl h⟩
    refine ⟨_, _, hD1, c_mblanks l S hR, fun S1 h1 => ?_⟩
    refine ⟨_, _, hD3, c_misWord l S1 (i := 13) 12 5 1 19 20 0 h1.1 (by decide) (by decide), fun v S2 h2 => ?_⟩
    obtain ⟨hv, h2⟩ := h2
    cases hv
    rw [et] at h2 ⊢
    have hE2 := h1.2.tr h2.2
    rw [bI_0]
    by_cases e13 : seg T (tx T n isb a) (tx T n isl (tx T n isb a)) = sw 13
    · rw [decide_eq_true e13]
      refine ⟨fun h => (by cases h), fun _ => t13 7 (by unfold two; rw [if_pos e13]) S2 h2.1 hE2⟩
    rw [decide_eq_false e13]
    refine ⟨fun _ => ?_, fun h => absurd rfl h⟩
    refine ⟨_, _, hD3, c_misWord l S2 (i := 14) 13 15 19 20 0 0 h2.1 (by decide) (by decide), fun v S3 h3 => ?_⟩
    obtain ⟨hv, h3⟩ := h3
    cases hv
    rw [et] at h3 ⊢
    have hE3 := hE2.tr h3.2
    rw [bI_0]
    by_cases e14 : seg T (tx T n isb a) (tx T n isl (tx T n isb a)) = sw 14
    · rw [decide_eq_true e14]
      refine ⟨fun h => (by cases h), fun _ => t13 8 (by unfold two; rw [if_neg e13, if_pos e14]) S3 h3.1 hE3⟩
    rw [decide_eq_false e14]
    refine ⟨fun _ => rest (by unfold two; rw [if_neg e13, if_neg e14]) S3 h3.1 hE3, fun h => absurd rfl h⟩
theorem lm_zero {l : Launch} {T : Nat → Nat} {n m kk : Nat} {D : Nat → Nat} (h : LmC l T n m kk 1 D) : LmC l T n m kk 0 D := by
  intro o s c x S hx ho hR hc hop
  cases s with
  | inl a => cases hx
  | inr q => exact h o (.inr q) c x S hx ho hR hc hop
theorem lm_u0 {l : Launch} {T : Nat → Nat} {n : Nat} : LmC l T n 4 k_X11_one 0 E4 := by
  intro o s c x S hx ho hR hc hop
  cases s with
  | inl a => cases hx
  | inr q =>
    cases hx
    refine q_meth zoX11_one q_fos (Nat.le_of_ble_eq_true rfl) ?_
    intro AT step
    refine step 20 [(4, [true, false, false])] 0 _ _ _ ?_
    simp only [q_vcs, q_vcc, q_vl, q_vu, ↓reduceIte, Nat.reduceEqDiff, Bool.false_eq_true, q_isc, q_mk, q_msk, zbX11_one, q_pad, q_ent, q_get, q_put, q_nl, q_w, List.cons_append, List.nil_append, q_aks, q_als, Nat.reduceAdd, Nat.reduceLeDiff, Nat.zero_le, true_and, and_true, Option.some.injEq, Sum.inl.injEq, Sum.inr.injEq, true_or, or_true, and_self, q_sw]
    rw [ms_0 hR]
    exact ⟨fun h => (by cases h), fun _ => ⟨hR, (fun b hb => by cases hb), (fun h => by cases h), MlQ.rf⟩⟩
theorem lm_all {l : Launch} {T : Nat → Nat} {n : Nat} (hn : n ≤ 150) : ∀ f g, g ≤ f → LmC l T n 0 k_X11_sum g E0 ∧ LmC l T n 2 k_X11_product g E2 ∧ LmC l T n 4 k_X11_one g E4 := by
  have p0 : LmC l T n 2 k_X11_product 0 E2 := lm_zero (lm_prod hn 0 (fun g hg => by rw [show g = 0 by omega]; exact lm_u0))
  have s0 : LmC l T n 0 k_X11_sum 0 E0 := lm_zero (lm_sum hn 0 (fun g hg => by rw [show g = 0 by omega]; exact p0))
  intro f
  induction f with
  | zero =>
    intro g hg
    rw [show g = 0 by omega]
    exact ⟨s0, p0, lm_u0⟩
  | succ f ih =>
    intro g hg
    by_cases e : g ≤ f
    · exact ih g e
    · rw [show g = f + 1 by omega]
      exact ⟨lm_sum hn f (fun g hg => (ih g hg).2.1), lm_prod hn f (fun g hg => (ih g hg).2.2), lm_one hn f (ih f (Nat.le_refl _)).1⟩
/-- blanks ahead of the law do not matter -/
theorem lp_tx (T : Nat → Nat) (n : Nat) : ∀ (f m o a : Nat) (c : List Tok), m = 0 ∨ m = 2 ∨ m = 4 → lp T n f m o (tx T n isb a) c = lp T n f m o a c := by
  intro f
  induction f with
  | zero => intro m o a c hm; rfl
  | succ f ih =>
    intro m o a c hm
    rcases hm with rfl | rfl | rfl
    · rw [lp_0, lp_0, ih 2 o a c (by decide)]
    · rw [lp_2, lp_2, ih 4 o a c (by decide)]
    · rw [lp, lp, tx_tx] <;> (intro q; omega)
