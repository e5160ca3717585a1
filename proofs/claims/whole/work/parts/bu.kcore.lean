/-! The constructors' machine: soundness -/
def k_PP (l : Launch) (f : Nat) : Prop := ∀ (d : Nat) (code os : List (Nat × kO)) (ls : qLs) (st : List qV) (kh : List kC) (cells slots mc ms : Nat) (kh' : List kC), k_ev k_fd k_rc k_mt f d code os ls st kh cells slots mc ms = some kh' →
  ∀ (p : Program) (e : Env) (R : Room) (s : State) (m : MethodId) (args : Array Value) (below : List Frame) (meth : Method) (c : Code) (D : va_G) (base n0 : Nat) (cc : ByteArray) (nL : Nat) (own : String) (isC : Bool) (P : List (Nat × Nat × Nat × Nat)) (cs : List (Nat × Int32)), k_Cx p R s m args meth c D base n0 cc nL own d isC P cs mc ms → k_ckl cc P cs isC nL code = true → k_ckl cc P cs isC nL os = true →
  ∀ pc, (∃ o r, os = (pc, o) :: r) → k_At p l e R s m args below meth c (MQ below (k_Qc D base kh') args s mc ms (k_A base)) D base n0 nL pc ls st kh cells slots
/-- a callee's contract -/
theorem k_met {l : Launch} {f : Nat} (IH : k_PP l f) {k d : Nat} {q : qM} {M : kM} {kh kh1 : List kC} {as : List qV} (hok : k_ok k) (hq : q_mt k = some q) (hM : k_mt k = some M) (hsz : (q_ent as).length ≤ M.2.1) (hev : k_ev k_fd k_rc k_mt f d M.1 M.1 (q_pad M.2.1 (q_ent as)) [] kh 0 0 M.2.2.1 M.2.2.2 = some kh1) (D : va_G) (base : Nat) : Met l q.1 (q_ws q) (k_rm d M.2.2.1 M.2.2.2) (k_Pc D base as kh) (k_Qc D base kh1) M.2.2.1 M.2.2.2 (k_A base) := by
  obtain ⟨q', M', P', cs', isC', hq', hM', hpl, hml', hret', hck', hP', hcs', hC', hhd⟩ := hok
  cases hq.symm.trans hq'
  cases hM.symm.trans hM'
  refine Met.ofW (cc := q.2.1) (maxL := q.2.2.1) (ret := q.2.2.2) hpl rfl ?_
  intro p e s m args below meth c s₁ Bd hml hv
  obtain ⟨rfl, hK, hX, hszU, cid, hHH⟩ := hv
  have hts := atoms_spec (ws := q_ws q) Bd.pre
  have Z : k_Cx p (headSpec (q_ws q) (k_rm d M.2.2.1 M.2.2.2)).room s m (as.map (q_cv (gB D base))).toArray meth c D base kh.length q.2.1 M.2.1 q.1.cls d isC' P' cs' M.2.2.1 M.2.2.2 :=
    ⟨⟨Bd.exec, Bd.bytes, hml.trans hml', findClass_of_methodNamed Bd.named, fun w hw => hts w (List.mem_cons_of_mem _ hw)⟩, ⟨hK, hX⟩, ⟨rfl, rfl, rfl, rfl⟩, hszU, ⟨Bd.returns.trans hret', Bd.notSynchronized, fun hi => ((name_of_methodNamed Bd.named Bd.method).1).trans (hC' hi)⟩, hP', hcs'⟩
  have key := IH d M.1 M.1 (q_pad M.2.1 (q_ent as)) [] kh 0 0 M.2.2.1 M.2.2.2 kh1 hev p e _ s m _ below meth c D base kh.length q.2.1 M.2.1 q.1.cls isC' P' cs' Z hck' hck' 0 hhd
  have hl := lv_entry (as.map (q_cv (gB D base))) (n := q.2.2.1) (by rw [q_ent_len, hml']; exact hsz)
  rw [lg_entry_eq]
  refine key s.heap [] _ cid hHH va_S.rf ⟨?_, hl.2.1, fun x hx => hl.2.2 x ?_⟩ rfl
  · rw [hl.1, hml']
  · obtain ⟨j, v, hj, rfl⟩ := q_enc_mem.mp hx
    exact q_ent_in (q_enc_mem.mpr ⟨j, v, q_pad_get hj, rfl⟩)
theorem k_tk {st : List qV} {n : Nat} {D : va_G} {base : Nat} (_hn : n ≤ st.length) : st.map (q_cv (gB D base)) = ((st.take n).reverse.map (q_cv (gB D base))).reverse ++ (st.drop n).map (q_cv (gB D base)) := by
  rw [← List.map_reverse, List.reverse_reverse, ← List.map_append, List.take_append_drop]
theorem k_rok2 {rc : Nat → Nat} {kh : List kC} {tag a b idx : Nat} {z : Int32} {st : List qV} (ht : tag = 22 ∨ tag = 23) (h : k_rok rc kh (tag, a, b, idx, z) st = true) : ∃ x, (st.take b).reverse = [.inr (.inr x)] := by
  unfold k_rok at h
  dsimp only at h
  cases hr : (st.take b).reverse with
  | nil => rw [hr] at h; rcases ht with rfl | rfl <;> cases h
  | cons v r =>
    rw [hr] at h
    rcases v with v | v | v
    · rcases ht with rfl | rfl <;> cases h
    · rcases ht with rfl | rfl <;> cases h
    · cases r with
      | nil => exact ⟨v, rfl⟩
      | cons w r => rcases ht with rfl | rfl <;> cases h
theorem k_rok4 {rc : Nat → Nat} {kh : List kC} {a b idx : Nat} {z : Int32} {st : List qV} (h : k_rok rc kh (24, a, b, idx, z) st = true) : ∃ x as c fs, (st.take b).reverse = .inr (.inr x) :: as ∧ kh[x.2]? = some (.inl (c, fs)) ∧ c = rc a := by
  unfold k_rok at h
  dsimp only at h
  cases hr : (st.take b).reverse with
  | nil => rw [hr] at h; cases h
  | cons v r =>
    rw [hr] at h
    rcases v with v | v | v
    · cases h
    · cases h
    · have h : (match kh[v.2]? with
        | some (.inl (c, _)) => c == rc a
        | _ => false) = true := h
      split at h
      · rename_i c fs hg
        exact ⟨v, r, c, fs, rfl, hg, by simpa using h⟩
      · cases h
set_option maxHeartbeats 4000000 in
theorem k_core (l : Launch) (hco : ∀ ci, ci < 11 → k_co ci) (haw : k_aw) (hok : ∀ k M, k_mt k = some M → k_ok k) : ∀ f, k_PP l f := by
  intro f
  induction f with
  | zero => intro d code os ls st kh cells slots mc ms kh' h; cases h
  | succ f IH =>
    intro d code os ls st kh cells slots mc ms kh' h p e R s m args below meth c D base n0 cc nL own isC P cs Z hck hcko pc hpc
    obtain ⟨o, os', rfl⟩ := hpc
    obtain ⟨i, len, hd, he, hp, hcx, hnx, hckr⟩ := k_ckl_c hcko
    have hnext : ∀ {ls' st' kh2 c' s'}, k_ev k_fd k_rc k_mt f d code os' ls' st' kh2 c' s' mc ms = some kh' → k_At p l e R s m args below meth c (MQ below (k_Qc D base kh') args s mc ms (k_A base)) D base n0 nL (pc + len) ls' st' kh2 c' s' := by
      intro ls' st' kh2 c' s' h9
      cases hos : os' with
      | nil => rw [hos, k_ev_nil] at h9; cases h9
      | cons x r' =>
        have hx9 := hnx x r' hos
        refine IH d code os' ls' st' kh2 c' s' mc ms kh' h9 p e R s m args below meth c D base n0 cc nL own isC P cs Z hck hckr (pc + len) ⟨x.2, r', ?_⟩
        rw [hos, ← hx9]
    rw [k_ev] at h
    split at h
    · rename_i h25
      split at h
      · rename_i hc3
        obtain ⟨hc1, hc2, rfl⟩ := hc3
        cases h
        obtain ⟨⟨hx, hb, hml, hown, hts⟩, ⟨hK, hX⟩, hR, hsz, hm, hP, hcs⟩ := Z
        intro H locs arr cid hH hS hl hn
        obtain ⟨tag, a, b, idx, z⟩ := o
        have h25 : tag = 25 := h25
        subst h25
        cases List.mem_singleton.mp he
        refine W.widen (k := mc) (n := ms) (by omega) hc2 ?_
        exact W.vret (Qc := k_Qc D base kh) hx hb hm.1 (fun t ht hWm => ⟨⟨rfl, cid, by rw [ht]; exact hH.moved hWm.alike⟩, hS.F ht⟩) (fun q hq => hS.2.2 q hq) hd hm.2.1
      · cases h
    · rename_i h25
      split at h
      · rename_i h22
        split at h
        · rename_i M hM
          split at h
          · rename_i hcd
            obtain ⟨hd0, hrok, hn1, hw8, hcm, hsm, hent⟩ := hcd
            obtain ⟨d', rfl⟩ : ∃ d', d = d' + 1 := ⟨d - 1, by omega⟩
            rw [Nat.add_sub_cancel] at h
            split at h
            · rename_i kh1 hin
              split at h
              · rename_i hlen1
                obtain ⟨⟨hx, hb, hml, hown, hts⟩, ⟨hK, hX⟩, hR, hsz, hm, hP, hcs⟩ := id Z
                have hmet := fun (q : qM) (hq : q_mt o.2.1 = some q) => k_met (k := o.2.1) (d := d') (q := q) (M := M) (kh := kh) (kh1 := kh1) (as := (st.take o.2.2.1).reverse) IH (hok _ M hM) hq hM hent hin D base
                intro H locs arr cid hH hS hl hn
                refine W_sz (fun hz => ?_)
                have hsize := k_size hH hS hsz hn hz
                have hpre : ∀ U : State, U.heap = H → s.WarmedH U.vm → k_Pc D base (st.take o.2.2.1).reverse kh ((st.take o.2.2.1).reverse.map (q_cv (gB D base))).toArray U := fun U hU hWm => ⟨rfl, va_K.moved hWm.alike hK, hX.warm hWm, by rw [hU]; exact hsize, cid, by rw [hU]; exact hH.moved hWm.alike⟩
                have hfin : ∀ H1 locs1 cid1, k_HH D base cid1 s kh1 H1 → va_S (k_A base) s.heap H1 locs1 → len = 3 → W p l e R s m args below meth c H1 locs1 (cells + M.2.2.1) (slots + M.2.2.2) (MQ below (k_Qc D base kh') args s mc ms (k_A base)) (F0 m (pc + 3) arr ((st.drop o.2.2.1).map (q_cv (gB D base)))) := by
                  intro H1 locs1 cid1 hH1 hS1 hl3
                  have h9 := hnext h H1 locs1 arr cid1 hH1 hS1 hl (by omega)
                  rw [hl3] at h9
                  exact h9
                have hsp := k_tk (D := D) (base := base) hn1
                have hrw : 2 * (F0 m pc arr (st.map (q_cv (gB D base)))).monitorRoom + (((st.drop o.2.2.1).map (q_cv (gB D base))).map fun v => v.category).sum ≤ 8 := by
                  rw [q_w_map]
                  exact lv_roomN hw8
                obtain ⟨tag, a, b, idx, z⟩ := o
                dsimp only at *
                match tag, h22, h25, hrok, he, hp, hcx, hpre with
                | 22, _, _, hrok, he, hp, hcx, hpre =>
                  cases List.mem_singleton.mp he
                  obtain ⟨q, hq, w1, w2, w3, w4, hret, hini, hdd, h150⟩ := hP (idx, 22, a, 0) (hp _ List.mem_cons_self)
                  have hM9 := hmet q hq
                  obtain ⟨x, has⟩ := k_rok2 (Or.inl rfl) hrok
                  rw [has] at hsp hM9 hpre
                  exact k_after (va_runI (p := p) (l := l) (e := e) (below := below) (meth := meth) (locs := locs) (cells := cells) (slots := slots) (g := F0 m pc arr (st.map (q_cv (gB D base)))) (As := []) (b := base + x.2) (rest := (st.drop b).map (q_cv (gB D base))) (Ts := q_TB) ⟨hx, hb, hml, hown, hts⟩ hM9 (bytes := q.2.1) (maxL := q.2.2.1) (n := 0) ⟨by have := k_CB (own := own) (mc9 := M.2.2.1) (ms9 := M.2.2.2) (n := 0) hts ⟨hR.1, hR.2.1⟩ w1 w3 (by rw [hret]; exact w4) hdd h150; rw [hret] at this; exact this, hini, hts _ w2⟩ ⟨k_Pc_blind _, hpre⟩ rfl rfl hl.1 hsp hrw hd ⟨by omega, by omega⟩) hS (fun H1 locs1 cid1 h1 h2 => hfin H1 locs1 cid1 h1 h2 rfl)
                | 23, _, _, hrok, he, hp, hcx, hpre =>
                  cases List.mem_singleton.mp he
                  obtain ⟨q, hq, w1, w2, w3, w4, hret, hini, hdd, h150⟩ := hP (idx, 23, a, 0) (hp _ List.mem_cons_self)
                  have hM9 := hmet q hq
                  obtain ⟨x, has⟩ := k_rok2 (Or.inr rfl) hrok
                  rw [has] at hsp hM9 hpre
                  exact k_after (va_runIN (p := p) (l := l) (e := e) (below := below) (meth := meth) (locs := locs) (cells := cells) (slots := slots) (g := F0 m pc arr (st.map (q_cv (gB D base)))) (As := []) (b := base + x.2) (rest := (st.drop b).map (q_cv (gB D base))) (Ts := q_TB) ⟨hx, hb, hml, hown, hts⟩ hM9 (bytes := q.2.1) (maxL := q.2.2.1) (n := 0) ⟨by have := k_CN (own := own) (mc9 := M.2.2.1) (ms9 := M.2.2.2) (n := 0) hts ⟨hR.1, hR.2.1⟩ (hX.1 _ w1) w3 (by rw [hret]; exact w4) hdd h150; rw [hret] at this; exact this, hini, hts _ w2⟩ ⟨k_Pc_blind _, hpre⟩ rfl rfl hl.1 hsp hrw hd ⟨by omega, by omega⟩) hS (fun H1 locs1 cid1 h1 h2 => hfin H1 locs1 cid1 h1 h2 rfl)
                | 24, _, _, hrok, he, hp, hcx, hpre =>
                  cases List.mem_singleton.mp he
                  have hb0 : 0 < b := of_decide_eq_true hcx
                  obtain ⟨⟨q, hq, w1, w2, w3, w4, w5, hdd, h150⟩, hrc⟩ := hP (idx, 1, a, b - 1) (hp _ List.mem_cons_self)
                  have hM9 := hmet q hq
                  obtain ⟨x, as, c9, fs, has, hg, hrok⟩ := k_rok4 hrok
                  rw [has] at hsp hM9 hpre
                  rw [hq] at hrc
                  obtain ⟨rr, hrr, hr1⟩ := Option.map_eq_some_iff.mp hrc
                  have hlas : as.length = b - 1 := by
                    have h9 := congrArg List.length has
                    rw [List.length_reverse, List.length_take, List.length_cons] at h9
                    omega
                  have hrecv := va_recv (D := D) (cl := vwCl) (tys := []) hK hH.1 (hrok ▸ hrr) (k_gt hg)
                  rw [hr1] at hrecv
                  exact k_after (va_runV (p := p) (l := l) (e := e) (below := below) (meth := meth) (locs := locs) (cells := cells) (slots := slots) (g := F0 m pc arr (st.map (q_cv (gB D base)))) (As := as.map (q_cv (gB D base))) (b := base + x.2) (rest := (st.drop b).map (q_cv (gB D base))) (Ts := q_TB) ⟨hx, hb, hml, hown, hts⟩ hM9 (bytes := q.2.1) (maxL := q.2.2.1) (ret := q.2.2.2) (n := b - 1) (C := q.1.cls) ⟨k_CB hts ⟨hR.1, hR.2.1⟩ w1 w4 w5 hdd h150, hts _ w2, hts _ w3⟩ ⟨k_Pc_blind _, hrecv, hpre⟩ rfl (by rw [List.length_map]; exact hlas) hl.1 (by rw [hsp]; simp [q_cv, gB]) hrw hd ⟨by omega, by omega⟩) hS (fun H1 locs1 cid1 h1 h2 => hfin H1 locs1 cid1 h1 h2 rfl)
                | 26, _, _, hrok, he, hp, hcx, hpre =>
                  cases List.mem_singleton.mp he
                  obtain ⟨q, hq, w1, w2, w3, w4, hdd, h150⟩ := hP (idx, 2, a, b) (hp _ List.mem_cons_self)
                  have hM9 := hmet q hq
                  exact k_after (va_runS (p := p) (l := l) (e := e) (below := below) (meth := meth) (locs := locs) (cells := cells) (slots := slots) (g := F0 m pc arr (st.map (q_cv (gB D base)))) (As := (st.take b).reverse.map (q_cv (gB D base))) (rest := (st.drop b).map (q_cv (gB D base))) (Ts := q_TB) ⟨hx, hb, hml, hown, hts⟩ hM9 (bytes := q.2.1) (maxL := q.2.2.1) (ret := q.2.2.2) (n := b) ⟨k_CB hts ⟨hR.1, hR.2.1⟩ w1 w3 w4 hdd h150, hts _ w2⟩ ⟨k_Pc_blind _, hpre⟩ rfl (by rw [List.length_map, List.length_reverse, List.length_take]; omega) hl.1 hsp hrw hd ⟨by omega, by omega⟩) hS (fun H1 locs1 cid1 h1 h2 => hfin H1 locs1 cid1 h1 h2 rfl)
                | 25, _, h25, _, _, _, _, _ => exact absurd rfl h25
                | n + 27, _, _, hrok, he, _, _, _ => cases he
                | 0, h, _, _, _, _, _, _ => exact absurd h (by decide)
                | 1, h, _, _, _, _, _, _ => exact absurd h (by decide)
                | 2, h, _, _, _, _, _, _ => exact absurd h (by decide)
                | 3, h, _, _, _, _, _, _ => exact absurd h (by decide)
                | 4, h, _, _, _, _, _, _ => exact absurd h (by decide)
                | 5, h, _, _, _, _, _, _ => exact absurd h (by decide)
                | 6, h, _, _, _, _, _, _ => exact absurd h (by decide)
                | 7, h, _, _, _, _, _, _ => exact absurd h (by decide)
                | 8, h, _, _, _, _, _, _ => exact absurd h (by decide)
                | 9, h, _, _, _, _, _, _ => exact absurd h (by decide)
                | 10, h, _, _, _, _, _, _ => exact absurd h (by decide)
                | 11, h, _, _, _, _, _, _ => exact absurd h (by decide)
                | 12, h, _, _, _, _, _, _ => exact absurd h (by decide)
                | 13, h, _, _, _, _, _, _ => exact absurd h (by decide)
                | 14, h, _, _, _, _, _, _ => exact absurd h (by decide)
                | 15, h, _, _, _, _, _, _ => exact absurd h (by decide)
                | 16, h, _, _, _, _, _, _ => exact absurd h (by decide)
                | 17, h, _, _, _, _, _, _ => exact absurd h (by decide)
                | 18, h, _, _, _, _, _, _ => exact absurd h (by decide)
                | 19, h, _, _, _, _, _, _ => exact absurd h (by decide)
                | 20, h, _, _, _, _, _, _ => exact absurd h (by decide)
                | 21, h, _, _, _, _, _, _ => exact absurd h (by decide)
              · cases h
            · cases h
          · cases h
        · cases h
      · rename_i h22
        split at h
        · cases h
        · rename_i hdw
          split at h
          · rename_i ls' st' kh2 c' s' hst
            exact k_ss Z hco haw (by omega) (by omega) (by omega) hd he hp hcx hst (hnext h)
          · rename_i t ls' st' kh2 c' s' hst
            refine k_ss Z hco haw (by omega) (by omega) (by omega) hd he hp hcx hst ?_
            rcases k_from_hd (t := t) (code := code) with h0 | ⟨o9, os9, h0⟩
            · rw [h0, k_ev_nil] at h; cases h
            · exact IH d code _ ls' st' kh2 c' s' mc ms kh' h p e R s m args below meth c D base n0 cc nL own isC P cs Z hck (k_from_ck hck) t ⟨o9, os9, h0⟩
          · cases h
