/-! The constructors' machine: rows -/
section KV
variable {p : Program} {l : Launch} {e : Env} {R : Room} {s : State} {m : MethodId} {args : Array Value} {below : List Frame} {meth : Method} {c : Code} {Q : State → Prop} {D : va_G} {base n0 : Nat} {cc : ByteArray} {nL : Nat} {own : String} {d : Nat} {isC : Bool} {P : List (Nat × Nat × Nat × Nat)} {cs : List (Nat × Int32)} {mc ms : Nat}
variable {pc a b idx : Nat} {z : Int32} {ls : qLs} {st : List qV} {kh : List kC} {cells slots : Nat} {i : Instr} {len : Nat} {r : Option Nat × qLs × List qV × List kC × Nat × Nat}
theorem k_s16 (Z : k_Cx p R s m args meth c D base n0 cc nL own d isC P cs mc ms) (hd : decode cc pc = .ok (i, len)) (he : (i, len) ∈ k_exp cs (16, a, b, idx, z) pc) (h : k_step k_fd (16, a, b, idx, z) ls st kh cells slots mc ms = some r) (hk : k_N p l e R s m args below meth c Q D base n0 nL (pc + len) r) : k_At p l e R s m args below meth c Q D base n0 nL pc ls st kh cells slots := by
  obtain ⟨⟨hx, hb, hml, hown, hts⟩, ⟨hK, hX⟩, hR, hsz, hm, hP, hcs⟩ := Z
  simp only [k_step] at h
  split at h
  · rename_i i9 x r9
    split at h
    · rename_i n w hg
      split at h
      · rename_i hin
        cases h
        intro H locs arr cid hH hS hl hn
        cases List.mem_singleton.mp he
        exact va_iald (D := D) (cl := vwCl) (ws := k_ws D base cid kh) (tys := [(cid x.2, .int)]) hx hb (k_K1 hK hH.2 hg) hH.1 x.2 0 (k_gt hg) rfl (k_in hin) hd (hk H locs arr cid hH hS hl hn)
      · cases h
    · cases h
  · cases h
theorem k_s17 (Z : k_Cx p R s m args meth c D base n0 cc nL own d isC P cs mc ms) (hd : decode cc pc = .ok (i, len)) (he : (i, len) ∈ k_exp cs (17, a, b, idx, z) pc) (h : k_step k_fd (17, a, b, idx, z) ls st kh cells slots mc ms = some r) (hk : k_N p l e R s m args below meth c Q D base n0 nL (pc + len) r) : k_At p l e R s m args below meth c Q D base n0 nL pc ls st kh cells slots := by
  obtain ⟨⟨hx, hb, hml, hown, hts⟩, ⟨hK, hX⟩, hR, hsz, hm, hP, hcs⟩ := Z
  simp only [k_step] at h
  split at h
  · rename_i i9 x r9
    split at h
    · rename_i n w hg
      split at h
      · rename_i hin
        split at h
        · rename_i y hy
          cases h
          intro H locs arr cid hH hS hl hn
          cases List.mem_singleton.mp he
          have hin := k_in hin
          have hlt : i9.toNatClampNeg < n := Nat.not_le.mp fun q => hin (Or.inr q)
          have hP9 := hH.1 x.2 _ (k_gt hg)
          have hA : ArrOfT s (cid x.2) (.array .int) := (hH.2 x.2 5 n w hg).1
          refine W.aald (v := .ref (base + y.2)) (ty := .array .int) hx hb hP9 (hA n (fun j => va_rf (k_ref base (k_look w j)))) rfl (fun q => by cases q) (by show ¬ (i9 < 0 ∨ (arrV _ _ _).slots.size ≤ _); rw [arrV_size]; exact hin) ?_ rfl rfl hd (hk H locs arr cid hH hS hl hn)
          show (arrV (cid x.2) n (fun j => va_rf (k_ref base (k_look w j)))).slots[_]? = _
          rw [arrV_read _ _ hlt, hy]
          rfl
        · cases h
      · cases h
    · cases h
  · cases h
theorem k_s18 (Z : k_Cx p R s m args meth c D base n0 cc nL own d isC P cs mc ms) (hd : decode cc pc = .ok (i, len)) (he : (i, len) ∈ k_exp cs (18, a, b, idx, z) pc) (h : k_step k_fd (18, a, b, idx, z) ls st kh cells slots mc ms = some r) (hk : k_N p l e R s m args below meth c Q D base n0 nL (pc + len) r) : k_At p l e R s m args below meth c Q D base n0 nL pc ls st kh cells slots := by
  obtain ⟨⟨hx, hb, hml, hown, hts⟩, ⟨hK, hX⟩, hR, hsz, hm, hP, hcs⟩ := Z
  simp only [k_step] at h
  split at h
  · rename_i v i9 x r9
    split at h
    · rename_i n w hg
      split at h
      · rename_i hin
        cases h
        intro H locs arr cid hH hS hl hn
        cases List.mem_singleton.mp he
        refine va_iast (D := D) (cl := vwCl) (ws := k_ws D base cid kh) (tys := [(cid x.2, .int)]) (A := k_A base) hx hb (k_K1 hK hH.2 hg) hH.1 k_D hS x.2 0 (k_gt hg) rfl (k_in hin) hd (fun H1 locs1 hP1 hD1 hS1 => ?_)
        refine hk H1 locs1 arr cid (k_HH_set (k_lt hg) ?_ hH.2 (fun ty n' w' q => by cases q; exact ⟨_, _, hg⟩)) hS1 hl (by show (kh.set _ _).length = n0 + cells; rw [List.length_set]; exact hn)
        have e9 : (fun j => k_int (k_look ((i9.toNatClampNeg, .inl v) :: w) j)) = upd (fun j => k_int (k_look w j)) i9.toNatClampNeg v := by
          funext j
          show k_int (if i9.toNatClampNeg = j then some (.inl v) else k_look w j) = if j = i9.toNatClampNeg then v else k_int (k_look w j)
          by_cases e : j = i9.toNatClampNeg
          · rw [if_pos e.symm, if_pos e]
            rfl
          · rw [if_neg (fun q => e q.symm), if_neg e]
        show va_P D vwCl ((k_ws D base cid kh).set x.2 (base + x.2, .inl (cid x.2, n, .inl (fun j => k_int (k_look ((i9.toNatClampNeg, .inl v) :: w) j))))) H1
        rw [e9]
        exact hP1
      · cases h
    · cases h
  · cases h
theorem k_upq {base : Nat} {w : List (Nat × qV)} {k : Nat} {y : Nat × Nat} : (fun j => k_ref base (k_look ((k, .inr (.inr y)) :: w) j)) = va_up (fun j => k_ref base (k_look w j)) k (some (base + y.2)) := by
  funext j
  show k_ref base (if k = j then some (.inr (.inr y)) else k_look w j) = if j = k then some (base + y.2) else k_ref base (k_look w j)
  by_cases e : j = k
  · rw [if_pos e.symm, if_pos e]
    rfl
  · rw [if_neg (fun q => e q.symm), if_neg e]
set_option maxHeartbeats 1000000 in
theorem k_s19 (Z : k_Cx p R s m args meth c D base n0 cc nL own d isC P cs mc ms) (hd : decode cc pc = .ok (i, len)) (he : (i, len) ∈ k_exp cs (19, a, b, idx, z) pc) (hc : k_cko isC nL (19, a, b, idx, z) = true) (h : k_step k_fd (19, a, b, idx, z) ls st kh cells slots mc ms = some r) (hk : k_N p l e R s m args below meth c Q D base n0 nL (pc + len) r) : k_At p l e R s m args below meth c Q D base n0 nL pc ls st kh cells slots := by
  obtain ⟨⟨hx, hb, hml, hown, hts⟩, ⟨hK, hX⟩, hR, hsz, hm, hP, hcs⟩ := Z
  have hc : (a = 3 ∧ b = 3) ∨ (a = 4 ∧ b = 2) := by
    unfold k_cko at hc
    simpa using hc
  simp only [k_step] at h
  split at h
  · rename_i y i9 x r9
    split at h
    · rename_i t n w c9 fs hg hg2
      split at h
      · rename_i hin
        obtain ⟨rfl, rfl, hin⟩ := hin
        cases h
        intro H locs arr cid hH hS hl hn
        cases List.mem_singleton.mp he
        have hgo : ∀ (rr : vw_C), vwCl[c9]? = some rr → k_ty t = .object rr.1 → (∀ cA n' w', k_cel D base cA (.inr (t, n', w')) = .inl (cA, n', .inr (.inr (.inr (.inr (fun j => k_ref base (k_look w' j))))))) → W p l e R s m args below meth c H locs cells slots Q (F0 m pc arr (List.map (q_cv (gB D base)) (.inr (.inr y) :: .inl i9 :: .inr (.inr x) :: r9))) := by
          intro rr hrr ht hcel
          have ha : (k_ws D base cid kh)[x.2]? = some (base + x.2, .inl (cid x.2, n, .inr (.inr (.inr (.inr (fun j => k_ref base (k_look w j))))))) := by rw [k_gt hg, hcel]
          refine va_astq (D := D) (cl := vwCl) (ws := k_ws D base cid kh) (tys := [(cid x.2, k_ty t)]) (A := k_A base) (r := rr) (v := base + y.2) hx hb (k_K1 hK hH.2 hg) hH.1 k_D hS x.2 0 y.2 c9 ha (by rw [ht]; rfl) (k_gt hg2) hrr (k_in hin) hd (fun H1 locs1 hP1 hD1 hS1 => ?_)
          refine hk H1 locs1 arr cid (k_HH_set (k_lt hg) ?_ hH.2 (fun ty n' w' q => by cases q; exact ⟨_, _, hg⟩)) hS1 hl (by show (kh.set _ _).length = n0 + cells; rw [List.length_set]; exact hn)
          rw [hcel, k_upq]
          exact hP1
        rcases hc with ⟨rfl, rfl⟩ | ⟨rfl, rfl⟩
        · exact hgo (RX3, TX3, 3) rfl rfl (fun _ _ _ => rfl)
        · exact hgo (RX2, TX2, 2) rfl rfl (fun _ _ _ => rfl)
      · cases h
    · cases h
  · cases h
theorem k_s20 (Z : k_Cx p R s m args meth c D base n0 cc nL own d isC P cs mc ms) (hd : decode cc pc = .ok (i, len)) (he : (i, len) ∈ k_exp cs (20, a, b, idx, z) pc) (h : k_step k_fd (20, a, b, idx, z) ls st kh cells slots mc ms = some r) (hk : k_N p l e R s m args below meth c Q D base n0 nL (pc + len) r) : k_At p l e R s m args below meth c Q D base n0 nL pc ls st kh cells slots := by
  obtain ⟨⟨hx, hb, hml, hown, hts⟩, ⟨hK, hX⟩, hR, hsz, hm, hP, hcs⟩ := Z
  simp only [k_step] at h
  split at h
  · rename_i x r9
    split at h
    · rename_i t n w hg
      split at h
      · rename_i ht
        cases h
        intro H locs arr cid hH hS hl hn
        cases List.mem_singleton.mp he
        have hcel : ∃ x9, k_cel D base (cid x.2) (.inr (t, n, w)) = .inl (cid x.2, n, x9) := by
          rcases (show t = 0 ∨ t = 1 ∨ t = 2 ∨ t = 3 ∨ t = 4 ∨ t = 5 by omega) with rfl | rfl | rfl | rfl | rfl | rfl <;> exact ⟨_, rfl⟩
        obtain ⟨x9, hcel⟩ := hcel
        have ha : (k_ws D base cid kh)[x.2]? = some (base + x.2, .inl (cid x.2, n, x9)) := by rw [k_gt hg, hcel]
        exact va_alen (D := D) (cl := vwCl) (ws := k_ws D base cid kh) (tys := [(cid x.2, k_ty t)]) (x := (n, x9)) hx hb (k_K1 hK hH.2 hg) hH.1 x.2 0 ha rfl rfl hd (hk H locs arr cid hH hS hl hn)
      · cases h
    · cases h
  · cases h
theorem k_s21 (Z : k_Cx p R s m args meth c D base n0 cc nL own d isC P cs mc ms) (haw : k_aw) (hd0 : 0 < d) (hw : q_w st ≤ 9) (hd : decode cc pc = .ok (i, len)) (he : (i, len) ∈ k_exp cs (21, a, b, idx, z) pc) (hp : ∀ e ∈ k_pe (21, a, b, idx, z), e ∈ P) (h : k_step k_fd (21, a, b, idx, z) ls st kh cells slots mc ms = some r) (hk : k_N p l e R s m args below meth c Q D base n0 nL (pc + len) r) : k_At p l e R s m args below meth c Q D base n0 nL pc ls st kh cells slots := by
  obtain ⟨⟨hx, hb, hml, hown, hts⟩, ⟨hK, hX⟩, hR, hsz, hm, hP, hcs⟩ := Z
  obtain ⟨-, -, -, w3, w4⟩ := haw
  have hlk : Cond.methodLink own idx Lib.objectInit ∈ q_TB := hP _ (hp _ List.mem_cons_self)
  simp only [k_step] at h
  split at h
  · rename_i x r9
    cases h
    intro H locs arr cid hH hS hl hn
    cases List.mem_singleton.mp he
    have hw9 : 1 + q_w r9 ≤ 9 := hw
    refine W.objInit (a := base + x.2) (rest := r9.map (q_cv (gB D base))) hx hb hown (hts _ hlk) (hts _ w3) (hts _ w4) rfl (by rw [hml]; exact hl.1) rfl hd (by omega) ?_ ?_
    · rw [q_w_map]
      show 2 * 0 + q_w r9 + 12 ≤ R.locals
      omega
    · exact hk H locs arr cid hH hS hl hn
  · cases h
end KV
