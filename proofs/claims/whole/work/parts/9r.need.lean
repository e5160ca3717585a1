/-! need, needLane, needCar: thrown, and not -/
theorem q_H.ext {G : qG} {S : qSt} {H H' : Heap} (h : q_H G S H) (hk : ∀ q : Nat, q < H.size → H'[q]? = H[q]?) : q_H G S H' := ⟨fun f i hi => (h.1 f i hi).kept (hk _ (h.1 f i hi).lt), h.2⟩
theorem q_tnew {mt : Nat → Option qM} {p : Program} {l : Launch} {e : Env} {R : Room} {s : State} {m : MethodId} {args : Array Value} {below : List Frame} {meth : Method} {c : Code} {G : qG} {cc : ByteArray} {nL : Nat} {own : String} {d : Nat} {K : qK} {ret : Option FieldType} {rt : Nat} {xp : String → qSt → Prop} (Z : q_Tx mt p l e R s m args below meth c G cc nL own d K ret rt xp) (hl : l.stackTraces = false) (hd : 6 ≤ d)
    {cls : String} {ik is ic ix sj pc : Nat} {rx : ByteArray} (x0 : decode rx 0 = .ok (.aload_n 0, 1)) (x1 : decode rx 1 = .ok (.aload_n 1, 1)) (x2 : decode rx 2 = .ok (.invokespecial ix, 3)) (x5 : decode rx 5 = .ok (.return_, 1)) (hcls : Bundle.fit cls = true)
    (hw1 : [Cond.classLink own ik cls, Cond.initialized cls].all (fun w => decide (w ∈ lw_tbl) && goodWord w) = true) (hw2 : (nx_at own ic cls ix rx ["java/lang/RuntimeException", "java/lang/Exception"]).all (fun w => (decide (w ∈ lw_tbl) && goodWord w) || (decide (w ∈ q_xws) && vx_ot w)) = true) (hsr : (own, is, sj) ∈ q_sref)
    (d0 : decode cc pc = .ok (.new ik, 3)) (d3 : decode cc (pc + 3) = .ok (.dup, 1)) (d4 : decode cc (pc + 4) = .ok (.ldc_w is, 3)) (d7 : decode cc (pc + 7) = .ok (.invokespecial ic, 3)) (d10 : decode cc (pc + 10) = .ok (.athrow, 1))
    {ls : qLs} {S : qSt} (hxp : xp cls S) : q_At p l e R s m args below meth c (vx_MQ below (q_Qc G rt q_no) (q_Xc G xp) args s 1 6 (q_A G)) G nL pc ls [] S := by
  obtain ⟨⟨X, hK, hret, hlocks, hQ⟩, hRc, htab, hXW⟩ := Z
  obtain ⟨hx, hb, hml, hown, hts, hW, hR, hfo, hE⟩ := id X
  obtain ⟨e1, e2, e3, e4, e5, e6, e7⟩ := hE
  have hgood : ∀ w : Cond, (decide (w ∈ lw_tbl) && goodWord w) = true → w.before args s = true ∧ vx_ot w = true := fun w h => by
    simp only [Bool.and_eq_true, decide_eq_true_eq] at h
    exact ⟨hts w (q_TB_in h.1 h.2), by simp [vx_ot, h.2]⟩
  have hw1' := List.all_eq_true.mp hw1
  have k1 := hgood _ (hw1' _ List.mem_cons_self)
  have k2 := hgood _ (hw1' _ (List.mem_cons_of_mem _ List.mem_cons_self))
  have k3 : ∀ w ∈ nx_at own ic cls ix rx ["java/lang/RuntimeException", "java/lang/Exception"], w.before args s = true ∧ vx_ot w = true := fun w hw => by
    have := List.all_eq_true.mp hw2 w hw
    rcases Bool.or_eq_true _ _ ▸ this with h | h
    · exact hgood w h
    · simp only [Bool.and_eq_true, decide_eq_true_eq] at h
      refine ⟨?_, h.2⟩
      have hz := hXW.1 w h.1
      have hm := h.1
      simp only [q_xws, List.mem_cons, List.not_mem_nil, or_false] at hm
      rcases hm with q | q | q | q | q <;> subst q <;> exact va_Nw.use rfl hz
  intro H locs arr hH hS hlh hol hos
  refine nx_throw (own := own) (cls := cls) (text := q_txt.getD sj "") (names := ["java/lang/RuntimeException", "java/lang/Exception"]) (ik := ik) (is := is) (ic := ic) (sa := G.1 99 sj) (A := q_A G) (rest := []) hx hb hl x0 x1 x2 x5 hown hcls (by decide) k1.1 k2.1 (e2 _ hsr) (fun w hw => (k3 w hw).1) (fun w hw => ?_) e5 e6 hS (hlh.1.trans hml.symm) d0 d3 d4 d7 d10 (fun x hx => (htab x hx).elim) ?_ ?_ ?_ ?_ hlocks (fun t hal hsz hk => ⟨⟨S, hxp, hH.ext hk, hW.moved hal⟩, ?_⟩) (fun z hz => hS.2.2 z hz) (Nat.le_refl _) (Nat.le_refl _)
  · rcases List.mem_cons.mp hw with q | q
    · rw [q]; exact k1.2
    · rcases List.mem_cons.mp q with q | q
      · rw [q]; exact k2.2
      · exact (k3 w q).2
  · show 2 + 3 < R.frames
    omega
  · show 0 + (13 * (2 + 1) + 43) ≤ R.locals
    omega
  · omega
  · omega
  · refine ⟨Nat.le_trans hS.1 hsz, fun q hq hnA => ?_⟩
    rw [hk q (Nat.lt_of_lt_of_le hq hS.1)]
    exact hS.2.1 q hq hnA
def rxIA : ByteArray := ⟨#[0x2a, 0x2b, 0xb7, 0x00, 0x07, 0xb1]⟩
def rxNS : ByteArray := ⟨#[0x2a, 0x2b, 0xb7, 0x00, 0x0d, 0xb1]⟩
theorem xIA1 : [Cond.classLink "BlockedCars" 337 "java/lang/IllegalArgumentException", Cond.initialized "java/lang/IllegalArgumentException"].all (fun w => decide (w ∈ lw_tbl) && goodWord w) = true := by decide +kernel
theorem xIA2 : (nx_at "BlockedCars" 341 "java/lang/IllegalArgumentException" 7 rxIA ["java/lang/RuntimeException", "java/lang/Exception"]).all (fun w => (decide (w ∈ lw_tbl) && goodWord w) || (decide (w ∈ q_xws) && vx_ot w)) = true := by decide +kernel
theorem xNS1 : [Cond.classLink "BlockedCars" 344 "java/util/NoSuchElementException", Cond.initialized "java/util/NoSuchElementException"].all (fun w => decide (w ∈ lw_tbl) && goodWord w) = true := by decide +kernel
theorem xNS2 : (nx_at "BlockedCars" 348 "java/util/NoSuchElementException" 13 rxNS ["java/lang/RuntimeException", "java/lang/Exception"]).all (fun w => (decide (w ∈ lw_tbl) && goodWord w) || (decide (w ∈ q_xws) && vx_ot w)) = true := by decide +kernel
