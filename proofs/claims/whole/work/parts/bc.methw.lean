/-- a block that begins with a call that throws, and what is thrown is caught -/
def XCw (l : Launch) (d : Nat) (code : List (List qO)) (own : String) (hh : List (Nat × Nat × Nat × Nat)) (cc : ByteArray) (nL : Nat) (post : Option qV → qSt → Prop) (b : Nat) (_ : qLs) (st : List qV) (S : qSt) : Prop := ∃ pc a n r9 z zl w1 f os as i0 d' r8 xp, q_nth code b = (44, pc, a, n, r9, z, zl, [(w1, f)]) :: os ∧ (st.take n).reverse = .inr (.inr (f, i0)) :: as ∧ n ≤ st.length ∧ q_w (st.drop n) ≤ 8 ∧ d' < d ∧ q_Thr q_mt l d' a r8 (.inr (.inr (f, i0)) :: as) S xp ∧ ∀ E S', xp E S' → ∃ h z, q_cat own hh pc E h ∧ q_hck cc nL h z = true ∧ post (some (.inl z)) S'
/-- the method's code is what the ops say -/
def q_wok (q : qM) (own : String) (K : qK) (B : List Nat) (code : List (List qO)) (nL : Nat) : Prop := q.1.cls = own ∧ plainName q.1.cls = true ∧ q.2.2.1 = nL ∧ q_ckc q_mt q.2.1 K B q.2.2.1 q.2.2.2 code = true ∧ q.2.2.2 = some .int ∧ q_kok q_mt own K ∧ q_bp B 0 = 0 ∧ 0 < code.length
set_option maxHeartbeats 1000000 in
theorem q_methW {l : Launch} {d nL : Nat} {q : qM} {hh : List (Nat × Nat × Nat × Nat)} {own : String} {K : qK} {B : List Nat} {code : List (List qO)} (hok : q_wok q own K B code nL) {as : List qV} {S : qSt} {post : Option qV → qSt → Prop} (hsz : (q_ent as).length ≤ nL)
    (h : ∀ AT : Nat → qLs → List qV → qSt → Prop, (∀ n cuts b ls st S, q_run q_mt l d 1 (q_vc q_mt l d 1 post code cuts AT n) post (q_nth code b) ls st S → AT b ls st S) → (∀ b ls st S, XCw l d code own hh q.2.1 nL post b ls st S → AT b ls st S) → AT 0 (q_pad nL (q_ent as)) [] S) : q_WM l d q hh as S post := by
  intro G
  obtain ⟨hown, hpl, hnL, hck, hret, hK, hB, h0⟩ := hok
  refine vx_ofWH (cc := q.2.1) (maxL := q.2.2.1) (ret := q.2.2.2) (hh := hh) hpl rfl ?_
  intro p e s m args below meth c s₁ Bd hml hv
  obtain ⟨⟨rfl, hW, hH, hos, hE⟩, hXW⟩ := hv
  have hts := atoms_spec (ws := q_wsW q hh) Bd.pre
  have htab : c.exceptionTable.toList = tableOf hh := vx_table (x := q.1) Bd (hts (.codeWith q.1 q.2.1 q.2.2.1 q.2.2.2 hh) List.mem_cons_self)
  have hown' : s.vm.findClass own = some m.cls := hown ▸ findClass_of_methodNamed Bd.named
  have Z : q_Sx q_mt p l e (headSpec (q_wsW q hh) (q_rmx d)).room s m (as.map (q_cv G)).toArray below meth c (vx_MQ below (q_Qc G 1 post) (q_Xc G q_xno) (as.map (q_cv G)).toArray s 1 6 (q_A G)) G q.2.1 nL own d K (some .int) 1 post 1 6 :=
    ⟨⟨Bd.exec, Bd.bytes, hml.trans hnL, hown', fun w hw => hts w (List.mem_cons_of_mem _ hw), hW, ⟨rfl, rfl⟩, q_fos, hE⟩, hK, Bd.returns.trans hret, Bd.notSynchronized, fun H locs g hw => W.widen (Nat.zero_le _) (Nat.zero_le _) (vx_ret hw)⟩
  have hckb : ∀ b, q_ckb q_mt q.2.1 K B nL (some .int) (q_bp B b) (q_nth code b) = true := fun b => by
    rw [q_nth_getD]
    by_cases hb : b < code.length
    · have := List.all_eq_true.mp hck b (List.mem_range.mpr hb)
      rw [hnL, hret] at this
      exact this
    · rw [List.getD_eq_getElem?_getD, List.getElem?_eq_none (by omega)]
      rfl
  have hblk : ∀ b ls st S, q_run q_mt l d 1 (fun b ls st S => q_At p l e (headSpec (q_wsW q hh) (q_rmx d)).room s m (as.map (q_cv G)).toArray below meth c (vx_MQ below (q_Qc G 1 post) (q_Xc G q_xno) (as.map (q_cv G)).toArray s 1 6 (q_A G)) G nL (q_bp B b) ls st S) post (q_nth code b) ls st S →
      q_At p l e (headSpec (q_wsW q hh) (q_rmx d)).room s m (as.map (q_cv G)).toArray below meth c (vx_MQ below (q_Qc G 1 post) (q_Xc G q_xno) (as.map (q_cv G)).toArray s 1 6 (q_A G)) G nL (q_bp B b) ls st S := fun b ls st S hr => q_block Z rfl (hckb b) hr
  have hvc : ∀ n cuts b ls st S, q_vc q_mt l d 1 post code cuts (fun b ls st S => q_At p l e (headSpec (q_wsW q hh) (q_rmx d)).room s m (as.map (q_cv G)).toArray below meth c (vx_MQ below (q_Qc G 1 post) (q_Xc G q_xno) (as.map (q_cv G)).toArray s 1 6 (q_A G)) G nL (q_bp B b) ls st S) n b ls st S →
      q_At p l e (headSpec (q_wsW q hh) (q_rmx d)).room s m (as.map (q_cv G)).toArray below meth c (vx_MQ below (q_Qc G 1 post) (q_Xc G q_xno) (as.map (q_cv G)).toArray s 1 6 (q_A G)) G nL (q_bp B b) ls st S := by
    intro n cuts
    induction n with
    | zero => intro b ls st S hr; exact hr
    | succ n ih =>
      intro b ls st S hr
      rw [q_vc] at hr
      cases hcut : q_cut cuts b with
      | some cm =>
        rw [hcut] at hr
        exact q_At_sub (fun j v hj => q_msk_get hj) hr
      | none =>
        rw [hcut] at hr
        exact hblk b ls st S (q_run_mono (fun b ls st S hr => ih b ls st S hr) hr)
  have key := h _ (fun n cuts b ls st S hr => hblk b ls st S (q_run_mono (fun b ls st S hr => hvc n cuts b ls st S hr) hr)) (fun b ls st S hX => by
    obtain ⟨pc, a, n, r9, z, zl, w1, f, os, as9, i0, d', r8, xp, h1, h2, h3, h4, h5, h6, h7⟩ := hX
    have hc9 := hckb b
    rw [h1] at hc9
    exact q_ccall ⟨Z, ⟨rfl, rfl⟩, htab, hXW⟩ hc9 h2 h3 h4 h5 h6 h7)
  rw [hB] at key
  have hl := lv_entry (as.map (q_cv G)) (n := q.2.2.1) (by rw [q_ent_len, hnL]; exact hsz)
  rw [lg_entry_eq]
  refine key s.heap [] _ hH va_S.rf ⟨?_, hl.2.1, fun x hx => hl.2.2 x ?_⟩ (fun v hv => ?_) (fun v hv => by cases hv)
  · rw [hl.1, hnL]
  · obtain ⟨j, v, hj, rfl⟩ := q_enc_mem.mp hx
    exact q_ent_in (q_enc_mem.mpr ⟨j, v, q_pad_get hj, rfl⟩)
  · obtain ⟨j, hj⟩ := q_get_iff.mp hv
    exact q_ent_ok hos v (q_get_mem (q_pad_get hj))
/-- which handler -/
theorem q_cat1 {own E : String} {to h idx pc : Nat} (hpc : pc < to) (hi : idx ≠ 0) (hl : Cond.classLink own idx E ∈ q_TB) (hE : E = sIA ∨ E = sNS) : q_cat own [(0, to, h, idx)] pc E h := ⟨[], ⟨0, to, h, idx⟩, [], rfl, fun _ h => (by cases h), by simp [covers, hpc], hi, hl, hE, rfl⟩
theorem q_cat2 {own E : String} {to h h2 idx i2 pc : Nat} (hpc : pc < to) (hi : idx ≠ 0) (hl : Cond.classLink own idx E ∈ q_TB) (hE : E = sIA ∨ E = sNS) : q_cat own [(0, to, h, idx), (0, to, h2, i2)] pc E h := ⟨[], ⟨0, to, h, idx⟩, [⟨0, to, h2, i2⟩], rfl, fun _ h => (by cases h), by simp [covers, hpc], hi, hl, hE, rfl⟩
theorem q_cat3 {own : String} {to h h2 idx i2 pc : Nat} (hpc : pc < to) (hi : idx ≠ 0) (hl : Cond.classLink own idx sNS ∈ q_TB) (hi2 : i2 ≠ 0) (hl2 : Cond.classLink own i2 sIA ∈ q_TB) : q_cat own [(0, to, h, idx), (0, to, h2, i2)] pc sIA h2 := ⟨[⟨0, to, h, idx⟩], ⟨0, to, h2, i2⟩, [], rfl, fun z hz => by cases List.mem_singleton.mp hz; exact ⟨hi, hl, rfl⟩, by simp [covers, hpc], hi2, hl2, Or.inl rfl, rfl⟩
/-- what a wrapper of the law answers and leaves -/
def WP (S : qSt) (t : Nat) (r : SPR) (g : Int32 → Int64) : Option qV → qSt → Prop := fun x S' => x = some (.inl (nI (spC r.1))) ∧ (∃ t', t' ≤ t + 25 ∧ CL S' t' r.2) ∧ fr (fun f _ => f < 40 ∨ f = 80) S S' ∧ ∀ v, r.1 = .inr v → q_L S' 80 0 0 = g v
theorem WP_r {S S1 : qSt} {t t' : Nat} {v : Int32} {a' : AS} {g : Int32 → Int64} (ht : t' ≤ t + 25) (hC : CL S1 t' a') (hf : fr Fcl S S1) : WP S t (.inr v, a') g (some (.inl 0)) (q_wL S1 80 0 0 (g v)) := by
  refine ⟨rfl, ⟨t', ht, CL_fr hC (fr.wL fr.rf (by decide))⟩, fr.wL (hf.mn (fun f i z => Or.inl z)) (Or.inr rfl), fun w hw => ?_⟩
  cases hw
  rw [q_L_wL, if_pos ⟨rfl, rfl, rfl⟩]
theorem WP_x {S S1 : qSt} {t c : Nat} {a' : AS} {g : Int32 → Int64} (hC : CL S1 t a') (hf : fr Fcl S S1) : WP S t (.inl c, a') g (some (.inl (nI c))) S1 := ⟨rfl, ⟨t, by omega, hC⟩, hf.mn (fun f i z => Or.inl z), fun w hw => by cases hw⟩
