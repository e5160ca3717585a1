/-! The constructors' machine: cells made, read, written -/
def k_aw : Prop := Cond.arrayClass .int ∈ q_TB ∧ Cond.arrayClass .byte ∈ q_TB ∧ Cond.arrayClass .long ∈ q_TB ∧ Cond.instanceMethod Lib.objectInit ∈ q_TB ∧ Cond.code Lib.objectInit ⟨#[0xb1]⟩ 1 none ∈ q_TB
theorem k_dfv {D : va_G} {base : Nat} {t : FieldType} {fin : Bool} {q : Nat} (h : k_kf t fin q = true) : defaultValue t = k_val D base (k_df q) := by
  unfold k_kf at h
  split at h
  · rw [Bool.and_eq_true] at h
    rw [of_decide_eq_true h.1]
    rfl
  · rw [Bool.and_eq_true] at h
    cases t <;> first | rfl | (exact absurd h.1 (by simp [q_isR]))
  · rw [Bool.and_eq_true] at h
    cases t <;> first | rfl | (exact absurd h.1 (by simp [q_isR]))
  · rw [Bool.and_eq_true] at h
    rw [of_decide_eq_true h.1]
    rfl
  · rw [Bool.and_eq_true] at h
    rw [of_decide_eq_true h.1]
    rfl
  · cases h
section KU
variable {p : Program} {l : Launch} {e : Env} {R : Room} {s : State} {m : MethodId} {args : Array Value} {below : List Frame} {meth : Method} {c : Code} {Q : State → Prop} {D : va_G} {base n0 : Nat} {cc : ByteArray} {nL : Nat} {own : String} {d : Nat} {isC : Bool} {P : List (Nat × Nat × Nat × Nat)} {cs : List (Nat × Int32)} {mc ms : Nat}
variable {pc a b idx : Nat} {z : Int32} {ls : qLs} {st : List qV} {kh : List kC} {cells slots : Nat} {i : Instr} {len : Nat} {r : Option Nat × qLs × List qV × List kC × Nat × Nat}
set_option maxHeartbeats 1000000 in
theorem k_s10 (Z : k_Cx p R s m args meth c D base n0 cc nL own d isC P cs mc ms) (hco : ∀ ci, ci < 11 → k_co ci) (hd : decode cc pc = .ok (i, len)) (he : (i, len) ∈ k_exp cs (10, a, b, idx, z) pc) (hp : ∀ e ∈ k_pe (10, a, b, idx, z), e ∈ P) (hc : k_cko isC nL (10, a, b, idx, z) = true) (h : k_step k_fd (10, a, b, idx, z) ls st kh cells slots mc ms = some r) (hk : k_N p l e R s m args below meth c Q D base n0 nL (pc + len) r) : k_At p l e R s m args below meth c Q D base n0 nL pc ls st kh cells slots := by
  obtain ⟨⟨hx, hb, hml, hown, hts⟩, ⟨hK, hX⟩, hR, hsz, hm, hP, hcs⟩ := Z
  obtain ⟨C, T, N, ty, hv, hN, hw, hty, hnm, hT1, hin, hini, hkf⟩ := hco a (of_decide_eq_true hc)
  have hlk : Cond.classLink own idx C ∈ q_TB := hP _ (hp _ List.mem_cons_self) C T N hv
  simp only [k_step] at h
  split at h
  · rename_i hcs2
    cases h
    intro H locs arr cid hH hS hl hn
    cases List.mem_singleton.mp he
    refine va_new (D := D) (cl := vwCl) (A := k_A base) (ws := k_ws D base cid kh) (fs := ((k_fd a).map k_df).map (k_val D base)) hx hb hts hw ty hty hown (hts _ hlk) (hts _ hin) (hts _ hini) hK hH.1 k_D hS (fun q hq => by show base ≤ q; omega) hv ?_ (by omega) (by omega) hd (fun q H1 hP1 hD1 hS1 => ?_)
    · intro j hj
      have hq : (k_fd a)[j]? = some ((k_fd a)[j]'(by omega)) := List.getElem?_eq_getElem _
      unfold vp_V
      rw [List.getD_eq_getElem?_getD, List.getElem?_map, List.getElem?_map, hq]
      exact k_dfv (hkf j _ hq)
    · refine W_sz (fun hz => ?_)
      have e9 := k_next hP1 hD1 (by omega)
      subst e9
      have h9 := hk H1 locs arr (k_upd cid kh.length (D.1 0)) (k_HH_app (c := .inl (a, (k_fd a).map k_df)) hP1 hH.2 (fun ty n w q => by cases q)) hS1 hl (by show (kh ++ [_]).length = n0 + (cells + 1); rw [List.length_append]; show kh.length + 1 = _; omega)
      rw [hN] at h9
      exact h9
  · cases h
set_option maxHeartbeats 1000000 in
theorem k_s11 (Z : k_Cx p R s m args meth c D base n0 cc nL own d isC P cs mc ms) (haw : k_aw) (hd : decode cc pc = .ok (i, len)) (he : (i, len) ∈ k_exp cs (11, a, b, idx, z) pc) (hc : k_cko isC nL (11, a, b, idx, z) = true) (h : k_step k_fd (11, a, b, idx, z) ls st kh cells slots mc ms = some r) (hk : k_N p l e R s m args below meth c Q D base n0 nL (pc + len) r) : k_At p l e R s m args below meth c Q D base n0 nL pc ls st kh cells slots := by
  obtain ⟨⟨hx, hb, hml, hown, hts⟩, ⟨hK, hX⟩, hR, hsz, hm, hP, hcs⟩ := Z
  obtain ⟨w0, w1, w2, -, -⟩ := haw
  simp only [k_step] at h
  split at h
  · rename_i x r9
    split at h
    · rename_i hcs2
      obtain ⟨⟨hx0, hxm⟩, hc1, hs1⟩ := hcs2
      cases h
      intro H locs arr cid hH hS hl hn
      have fin : ∀ (t : Nat) (q : Nat) (cA : ClassId) (H1 : Heap), a = t → va_K D vwCl ([] ++ [(cA, k_ty t)]) s → va_P D vwCl (k_ws D base cid kh ++ [(q, k_cel D base cA (.inr (t, x.toNatClampNeg, [])))]) H1 → va_D (k_A base) (k_ws D base cid kh ++ [(q, k_cel D base cA (.inr (t, x.toNatClampNeg, [])))]) → va_S (k_A base) s.heap H1 locs → W p l e R s m args below meth c H1 locs (cells + 1) (slots + x.toNatClampNeg) Q (F0 m (pc + len) arr (.ref q :: r9.map (q_cv (gB D base)))) := by
        intro t q cA H1 ht hK1 hP1 hD1 hS1
        subst ht
        refine W_sz (fun hz => ?_)
        have e9 := k_next hP1 hD1 (by omega)
        subst e9
        exact hk H1 locs arr (k_upd cid kh.length cA) (k_HH_app (c := .inr (a, x.toNatClampNeg, [])) hP1 hH.2 (fun ty n w q => by cases q; exact hK1.2 0 _ rfl)) hS1 hl (by show (kh ++ [_]).length = n0 + (cells + 1); rw [List.length_append]; show kh.length + 1 = _; omega)
      have hA : ∀ q, s.heap.size ≤ q → k_A base q := fun q hq => by show base ≤ q; omega
      have hc : a < 3 := of_decide_eq_true hc
      rcases (show a = 0 ∨ a = 1 ∨ a = 2 by omega) with rfl | rfl | rfl <;> cases List.mem_singleton.mp he
      · exact va_newa (D := D) (cl := vwCl) (tys := []) (A := k_A base) (ws := k_ws D base cid kh) (a0 := (x.toNatClampNeg, .inl (fun j => k_int (k_look [] j)))) (ty := .int) (atype := .int) hx hb (hts _ w0) rfl hK hH.1 k_D hS hA (fun cA => by rw [vp_cell_i]; rfl) hx0 rfl (by simp [componentBytes]; omega) (by omega) (by omega) hd (fun q cA H1 hK1 hP1 hD1 hS1 => fin 0 q cA H1 rfl hK1 hP1 hD1 hS1)
      · exact va_newa (D := D) (cl := vwCl) (tys := []) (A := k_A base) (ws := k_ws D base cid kh) (a0 := (x.toNatClampNeg, .inl (fun j => k_int (k_look [] j)))) (ty := .byte) (atype := .byte) hx hb (hts _ w1) rfl hK hH.1 k_D hS hA (fun cA => by rw [vp_cell_i]; rfl) hx0 rfl (by simp [componentBytes]; omega) (by omega) (by omega) hd (fun q cA H1 hK1 hP1 hD1 hS1 => fin 1 q cA H1 rfl hK1 hP1 hD1 hS1)
      · exact va_newa (D := D) (cl := vwCl) (tys := []) (A := k_A base) (ws := k_ws D base cid kh) (a0 := (x.toNatClampNeg, .inr (.inl (fun _ => 0)))) (ty := .long) (atype := .long) hx hb (hts _ w2) rfl hK hH.1 k_D hS hA (fun cA => by rw [vp_cell_l]; rfl) hx0 rfl (by simp [componentBytes]; omega) (by omega) (by omega) hd (fun q cA H1 hK1 hP1 hD1 hS1 => fin 2 q cA H1 rfl hK1 hP1 hD1 hS1)
    · cases h
  · cases h
set_option maxHeartbeats 1000000 in
theorem k_s12 (Z : k_Cx p R s m args meth c D base n0 cc nL own d isC P cs mc ms) (hd : decode cc pc = .ok (i, len)) (he : (i, len) ∈ k_exp cs (12, a, b, idx, z) pc) (hp : ∀ e ∈ k_pe (12, a, b, idx, z), e ∈ P) (hc : k_cko isC nL (12, a, b, idx, z) = true) (h : k_step k_fd (12, a, b, idx, z) ls st kh cells slots mc ms = some r) (hk : k_N p l e R s m args below meth c Q D base n0 nL (pc + len) r) : k_At p l e R s m args below meth c Q D base n0 nL pc ls st kh cells slots := by
  obtain ⟨⟨hx, hb, hml, hown, hts⟩, ⟨hK, hX⟩, hR, hsz, hm, hP, hcs⟩ := Z
  simp only [k_step] at h
  split at h
  · rename_i x r9
    split at h
    · rename_i hcs2
      obtain ⟨⟨hx0, hxm⟩, hc1, hs1⟩ := hcs2
      cases h
      intro H locs arr cid hH hS hl hn
      have hA : ∀ q, s.heap.size ≤ q → k_A base q := fun q hq => by show base ≤ q; omega
      cases List.mem_singleton.mp he
      have hpp := hP _ (hp _ List.mem_cons_self)
      have hc : a = 3 ∨ a = 4 := by
        unfold k_cko at hc
        simpa using hc
      rcases hc with rfl | rfl
      · refine va_newq (D := D) (cl := vwCl) (tys := []) (A := k_A base) (ws := k_ws D base cid kh) (C := "BlockedCars$Position") hx hb hown (hts _ hpp) hX.2.1 hK hH.1 k_D hS hA hx0 rfl (by omega) (by omega) (by omega) hd (fun q cA H1 hK1 hP1 hD1 hS1 => ?_)
        refine W_sz (fun hz => ?_)
        have e9 := k_next hP1 hD1 (by omega)
        subst e9
        exact hk H1 locs arr (k_upd cid kh.length cA) (k_HH_app (c := .inr (3, x.toNatClampNeg, [])) hP1 hH.2 (fun ty n w q => by cases q; exact hK1.2 0 _ rfl)) hS1 hl (by show (kh ++ [_]).length = n0 + (cells + 1); rw [List.length_append]; show kh.length + 1 = _; omega)
      · refine va_newq (D := D) (cl := vwCl) (tys := []) (A := k_A base) (ws := k_ws D base cid kh) (C := "BlockedCars$Past") hx hb hown (hts _ hpp) hX.2.2.1 hK hH.1 k_D hS hA hx0 rfl (by omega) (by omega) (by omega) hd (fun q cA H1 hK1 hP1 hD1 hS1 => ?_)
        refine W_sz (fun hz => ?_)
        have e9 := k_next hP1 hD1 (by omega)
        subst e9
        exact hk H1 locs arr (k_upd cid kh.length cA) (k_HH_app (c := .inr (4, x.toNatClampNeg, [])) hP1 hH.2 (fun ty n w q => by cases q; exact hK1.2 0 _ rfl)) hS1 hl (by show (kh ++ [_]).length = n0 + (cells + 1); rw [List.length_append]; show kh.length + 1 = _; omega)
    · cases h
  · cases h
theorem k_gt {D : va_G} {base : Nat} {cid : Nat → ClassId} {kh : List kC} {k : Nat} {c : kC} (h : kh[k]? = some c) : (k_ws D base cid kh)[k]? = some (base + k, k_cel D base (cid k) c) := by
  rw [k_ws_get, h]
  rfl
theorem k_lt {kh : List kC} {k : Nat} {c : kC} (h : kh[k]? = some c) : k < kh.length := (List.getElem?_eq_some_iff.mp h).1
theorem k_K1 {D : va_G} {cid : Nat → ClassId} {s : State} {kh : List kC} {k ty n : Nat} {w : List (Nat × qV)} (hK : va_K D vwCl [] s) (hT : k_TT s cid kh) (h : kh[k]? = some (.inr (ty, n, w))) : va_K D vwCl [(cid k, k_ty ty)] s := ⟨hK.1, fun j q hj => by
  have hl : j < 1 := (List.getElem?_eq_some_iff.mp hj).1
  obtain rfl : j = 0 := by omega
  cases hj
  exact hT k ty n w h⟩
theorem k_s14 (Z : k_Cx p R s m args meth c D base n0 cc nL own d isC P cs mc ms) (hco : ∀ ci, ci < 11 → k_co ci) (hd : decode cc pc = .ok (i, len)) (he : (i, len) ∈ k_exp cs (14, a, b, idx, z) pc) (hp : ∀ e ∈ k_pe (14, a, b, idx, z), e ∈ P) (hc : k_cko isC nL (14, a, b, idx, z) = true) (h : k_step k_fd (14, a, b, idx, z) ls st kh cells slots mc ms = some r) (hk : k_N p l e R s m args below meth c Q D base n0 nL (pc + len) r) : k_At p l e R s m args below meth c Q D base n0 nL pc ls st kh cells slots := by
  obtain ⟨⟨hx, hb, hml, hown, hts⟩, ⟨hK, hX⟩, hR, hsz, hm, hP, hcs⟩ := Z
  have hc : a < 11 ∧ b < (k_fd a).length := by
    unfold k_cko at hc
    simpa using hc
  obtain ⟨C, T, N, ty, hv, hN, hw, hty, hnm, hT1, hin, hini, hkf⟩ := hco a hc.1
  have hlk : Cond.fieldLink own idx C (T b).2.1 (T b).2.2.1 ∈ q_TB := hP _ (hp _ List.mem_cons_self) C T N hv
  simp only [k_step] at h
  split at h
  · rename_i x r9
    split at h
    · rename_i c9 fs hg
      split at h
      · rename_i hca
        subst hca
        split at h
        · rename_i v hf
          cases h
          intro H locs arr cid hH hS hl hn
          cases List.mem_singleton.mp he
          refine va_get (D := D) (cl := vwCl) (ci := c9) (C := C) (T := T) (N := N) (ref := C) (v := q_cv (gB D base) v) (ws := k_ws D base cid kh) (tys := []) hx hb hts hw hown hK hH.1 x.2 (k_gt hg) hv b (by omega) (hts _ hlk) (fun x9 h9 => by rw [hT1 b (by omega)] at h9; exact h9) ?_ hd (hk H locs arr cid hH hS hl hn)
          rw [List.getElem?_map, hf]
          rfl
        · cases h
      · cases h
    · cases h
  · cases h
set_option maxHeartbeats 1000000 in
theorem k_s15 (Z : k_Cx p R s m args meth c D base n0 cc nL own d isC P cs mc ms) (hco : ∀ ci, ci < 11 → k_co ci) (hd : decode cc pc = .ok (i, len)) (he : (i, len) ∈ k_exp cs (15, a, b, idx, z) pc) (hp : ∀ e ∈ k_pe (15, a, b, idx, z), e ∈ P) (hc : k_cko isC nL (15, a, b, idx, z) = true) (h : k_step k_fd (15, a, b, idx, z) ls st kh cells slots mc ms = some r) (hk : k_N p l e R s m args below meth c Q D base n0 nL (pc + len) r) : k_At p l e R s m args below meth c Q D base n0 nL pc ls st kh cells slots := by
  obtain ⟨⟨hx, hb, hml, hown, hts⟩, ⟨hK, hX⟩, hR, hsz, hm, hP, hcs⟩ := Z
  have hc : a < 11 ∧ b < (k_fd a).length ∧ (isC = true ∨ ¬ (k_fd a)[b]? = some 3) := by
    unfold k_cko at hc
    simpa using hc
  obtain ⟨C, T, N, ty, hv, hN, hw, hty, hnm, hT1, hin, hini, hkf⟩ := hco a hc.1
  have hlk : Cond.fieldLink own idx C (T b).2.1 (T b).2.2.1 ∈ q_TB := hP (idx, 0, a, b) (hp _ (by unfold k_pe; exact List.mem_cons_self)) C T N hv
  simp only [k_step] at h
  split at h
  · rename_i v x r9
    split at h
    · rename_i c9 fs hg
      split at h
      · rename_i hca
        obtain ⟨hca, hbl, hfit⟩ := hca
        subst hca
        cases h
        intro H locs arr cid hH hS hl hn
        cases List.mem_singleton.mp he
        have kk : ∀ (H1 : Heap) (locs1 : List Loc), va_P D vwCl ((k_ws D base cid kh).set x.2 (base + x.2, .inr (c9, (fs.map (k_val D base)).set b (q_cv (gB D base) v)))) H1 → va_D (k_A base) ((k_ws D base cid kh).set x.2 (base + x.2, .inr (c9, (fs.map (k_val D base)).set b (q_cv (gB D base) v)))) → va_S (k_A base) s.heap H1 locs1 → W p l e R s m args below meth c H1 locs1 cells slots Q (F0 m (pc + 3) arr (r9.map (q_cv (gB D base)))) := by
          intro H1 locs1 hP1 hD1 hS1
          refine hk H1 locs1 arr cid (k_HH_set (k_lt hg) ?_ hH.2 (fun ty n w q => by cases q)) hS1 hl (by show (kh.set _ _).length = _; rw [List.length_set]; exact hn)
          show va_P D vwCl ((k_ws D base cid kh).set x.2 (base + x.2, .inr (c9, (fs.set b (some v)).map (k_val D base)))) H1
          rw [List.map_set]
          exact hP1
        have hsame : ∀ x9, s.fieldFound? (T b).1 (T b).2.1 (T b).2.2.1 = some x9 → s.fieldFound? C (T b).2.1 (T b).2.2.1 = some x9 := fun x9 h9 => by rw [hT1 b (by omega)] at h9; exact h9
        have hq : (k_fd c9)[b]? = some ((k_fd c9)[b]'hc.2.1) := List.getElem?_eq_getElem _
        have hkb := hkf b _ hq
        rcases v with v | v | v
        · have hq0 : (k_fd c9)[b]'hc.2.1 = 0 := by
            unfold k_fit at hfit
            rw [hq] at hfit
            simpa using hfit
          rw [hq0] at hkb
          have hkb : ty b = .int ∧ (T b).2.2.2 = false := by
            unfold k_kf at hkb
            simpa using hkb
          exact va_put (D := D) (cl := vwCl) (ci := c9) (C := C) (T := T) (N := N) (ref := C) (v := .int v) (ty := .int) (ws := k_ws D base cid kh) (tys := []) (A := k_A base) hx hb hts hw ty hty hnm hown hK hH.1 k_D hS x.2 (k_gt hg) hv b (by omega) (hts _ hlk) hsame hkb.2 (by rw [hty b (by omega), hkb.1]) (vp_nar_int v) rfl (by rw [List.length_map]; exact hbl) hd kk
        · cases hfit
        · have hq2 : (k_fd c9)[b]'hc.2.1 = 2 ∨ (k_fd c9)[b]'hc.2.1 = 3 := by
            unfold k_fit at hfit
            rw [hq] at hfit
            simpa using hfit
          have hR9 : q_isR (ty b) = true := by
            rcases hq2 with e2 | e2 <;> rw [e2] at hkb <;> unfold k_kf at hkb <;> simp only [Bool.and_eq_true] at hkb <;> exact hkb.1
          have hnar : narrow (ty b) (.ref (base + v.2)) = .ref (base + v.2) := by
            cases ht : ty b <;> first | rfl | (rw [ht] at hR9; cases hR9)
          have hfts : fits (ty b) (.ref (base + v.2)) = true := by
            cases ht : ty b <;> first | rfl | (rw [ht] at hR9; cases hR9)
          rcases hq2 with e2 | e2
          · rw [e2] at hkb
            have hf : (T b).2.2.2 = false := by
              unfold k_kf at hkb
              simp only [Bool.and_eq_true, Bool.not_eq_true'] at hkb
              exact hkb.2
            exact va_put (D := D) (cl := vwCl) (ci := c9) (C := C) (T := T) (N := N) (ref := C) (v := .ref (base + v.2)) (ty := ty b) (ws := k_ws D base cid kh) (tys := []) (A := k_A base) hx hb hts hw ty hty hnm hown hK hH.1 k_D hS x.2 (k_gt hg) hv b (by omega) (hts _ hlk) hsame hf (hty b (by omega)) hnar hfts (by rw [List.length_map]; exact hbl) hd kk
          · have hf : (T b).2.2.2 = true := by
              rw [e2] at hkb
              unfold k_kf at hkb
              simp only [Bool.and_eq_true] at hkb
              exact hkb.2
            have h3 : (k_fd c9)[b]? = some 3 := by rw [hq, e2]
            have hCo : C = own := hP (0, 11, c9, 0) (hp _ (by simp only [k_pe, if_pos h3]; exact List.mem_cons_of_mem _ List.mem_cons_self)) C T N hv
            exact va_putF (D := D) (cl := vwCl) (ci := c9) (C := C) (T := T) (N := N) (ref := C) (v := .ref (base + v.2)) (ty := ty b) (ws := k_ws D base cid kh) (tys := []) (A := k_A base) hx hb hts hw ty hty hnm hown hK hH.1 k_D hS x.2 (k_gt hg) hv b (by omega) (hts _ hlk) hsame hf (hm.2.2 (hc.2.2.elim id (fun q => absurd h3 q))) ((hT1 b (by omega)).trans hCo) (hty b (by omega)) hnar hfts (by rw [List.length_map]; exact hbl) hd kk
      · cases h
    · cases h
  · cases h
end KU
