/-! ===== new int[n][k], over V ===== -/
section JM
variable {M : jM} {d pc mc ms : Nat} {L : List (Option jA)} {st : List jA} {h : jH} {Q : Option jA → jH → Prop}
/-- the outer array, and behind it its rows -/
def jmul (h : jH) (N K : Nat) : jH :=
  (fun a k => if jN h ≤ a ∧ a ≤ jN h + N then 0 else jI h a k, fun a k => if jN h ≤ a ∧ a ≤ jN h + N then 0 else jP h a k, fun a k => if jN h ≤ a ∧ a ≤ jN h + N then 0 else jX h a k,
   fun a k => if jN h ≤ a ∧ a ≤ jN h + N then (if a = jN h ∧ k < N then jN h + 1 + k else 0) else jY h a k, fun a => if jN h ≤ a ∧ a ≤ jN h + N then (if a = jN h then (20, N) else (16, K)) else jS h a, jN h + 1 + N)
theorem jouter (c : ClassId) (N h0 : Nat) : ∀ i : Nat, Jvm.Free.Multi.outerC c N h0 i = arrV c N (fun j => va_rf (if j < i then some (h0 + 1 + j) else none))
  | 0 => by
    show ({ cls := c, slots := Array.replicate N .null, vm := .none } : Cell) = _
    rw [arrV_new]
    refine congrArg (arrV c N) (funext fun j => ?_)
    simp [va_rf]
  | i + 1 => by
    show (Jvm.Free.Multi.outerC c N h0 i).setSlot i (.ref (h0 + 1 + i)) = _
    rw [jouter c N h0 i, arrV_store]
    refine congrArg (arrV c N) (funext fun j => ?_)
    by_cases e : j = i
    · subst e
      simp [updV, va_rf]
    · by_cases h : j < i
      · simp [updV, e, h, Nat.lt_succ_of_lt h]
      · simp [updV, e, h, show ¬ j < i + 1 by omega]
theorem arrV_congr {c : ClassId} {N : Nat} {f g : Nat → Value} (h : ∀ j, j < N → f j = g j) : arrV c N f = arrV c N g := by
  unfold arrV
  congr 1
  exact Array.ext (by simp) (fun i h1 h2 => by
    have hi : i < N := by simpa using h1
    rw [Array.getElem_ofFn, Array.getElem_ofFn]
    exact h i hi)
theorem V_multi {ix : Nat} {n k0 : Int} (hd : decode (jmC M) pc = .ok (.multianewarray ix 2, 4)) (hcl : Cond.classLink (jmO M) ix ("[" ++ (FieldType.array .int).toString) ∈ jTs) (hac : Cond.arrayClass .int ∈ jTs) (h0 : 0 ≤ n) (h1 : n ≤ 10000) (g0 : 0 ≤ k0) (g1 : k0 ≤ 10000)
    (k : V M d (pc + 4) L (.inr (jN h) :: st) (jmul h n.toNat k0.toNat) mc ms Q) : V M d pc L (.inl k0 :: .inl n :: st) h (mc + (1 + n.toNat)) (ms + (n.toNat + n.toNat * k0.toNat)) Q := by
  intro p l e R s m args below meth c G MC MS Z H locs cells slots ls cx hok hls hst hc hs hz
  obtain ⟨hx, hb, hml, hown, hts, hnm, hfr, hlo, hMC, hMS, hZ⟩ := id cx
  have rk : jR k0 := jst_hd hst
  have rn : jR n := jst_hd (jst_tl hst)
  intro T hT X
  obtain ⟨hw, hs0, hP, hSS, hsz, hbz, hz0, hX⟩ := hok
  have en := j_ix rn
  have ek := j_ix rk
  obtain ⟨vm₁, cA, comp, -, fA, fC, hO, hIn, X', step⟩ := X.multianewarray2F hx hown (hts _ hcl) hs0.2.2.2.2 (hts _ hac) (g := F0 m pc ls (.int (Int32.ofInt k0) :: .int (Int32.ofInt n) :: st.map (jV G))) rfl (by rw [hb]; exact hd) rfl (j_nneg rn h0) (j_nneg rk g0)
    (by rw [en]; omega) (by rw [ek]; show k0.toNat * 4 ≤ _; omega) (by rw [ek]; omega) rfl rfl (by rw [en]; omega) (by rw [en, ek]; omega)
  rw [en, ek] at X' step
  have ec : comp = jgA G 16 := by
    have e2 := (hs0.1.2 0 (jgA G 16, .int) rfl).2
    exact Option.some.inj (fC.symm.trans (show _ = some (jgA G 16) from e2))
  have eA : cA = jgA G 20 := by
    have e2 := (hs0.1.2 4 (jgA G 20, .array .int) rfl).2
    exact Option.some.inj (fA.symm.trans (show _ = some (jgA G 20) from e2))
  subst ec
  subst eA
  have hTh : (T.setVm vm₁).heap = H := hT
  have f1 := (Jvm.Free.Multi.fill_facts (T.setVm vm₁) (jgA G 20) (jgA G 16) n.toNat k0.toNat (defaultValue .int) n.toNat).1
  have f2 := (Jvm.Free.Multi.fill_facts (T.setVm vm₁) (jgA G 20) (jgA G 16) n.toNat k0.toNat (defaultValue .int) n.toNat).2.1
  have hold0 : ∀ x : Nat, x < H.size → (Jvm.Free.Multi.fill (T.setVm vm₁) (jgA G 20) (jgA G 16) n.toNat k0.toNat (defaultValue .int) n.toNat).heap[x]? = H[x]? := fun x hx9 => by
    have := Jvm.Free.Multi.fill_old (T.setVm vm₁) (jgA G 20) (jgA G 16) n.toNat k0.toNat (defaultValue .int) (a := x) (by rw [hTh]; exact hx9) n.toNat
    rw [hTh] at this
    exact this
  have hrow := Jvm.Free.Multi.fill_inner (T.setVm vm₁) (jgA G 20) (jgA G 16) n.toNat k0.toNat (defaultValue .int) n.toNat
  rw [hTh] at f1 f2 hrow
  generalize Jvm.Free.Multi.fill (T.setVm vm₁) (jgA G 20) (jgA G 16) n.toNat k0.toNat (defaultValue .int) n.toNat = F at X' step f1 f2 hold0 hrow
  have h2 := hw.1
  have hEo : ∀ a, a < jN h → jE G (jmul h n.toNat k0.toNat) a = jE G h a := fun a ha => by
    have q : ¬ (jN h ≤ a ∧ a ≤ jN h + n.toNat) := by omega
    exact jE_eq (if_neg q) (funext fun _ => if_neg q) (funext fun _ => if_neg q) (funext fun _ => if_neg q) (funext fun _ => if_neg q)
  have hok' : jOk G (jmul h n.toNat k0.toNat) s.heap F.heap locs s := by
    obtain ⟨w2, wI, wX, w0, w1, wn, wl⟩ := hw
    refine ⟨⟨by show 2 ≤ jN h + 1 + n.toNat; omega, fun a j => ?_, fun a j => ?_, ?_, ?_, fun a ha => ?_, fun a => ?_⟩, hs0, ?_, ⟨?_, fun q hq hA => ?_, hSS.2.2⟩, ?_, hbz, hz0, ?_⟩
    · show jR (if _ then 0 else jI h a j)
      split
      · exact jR_0
      · exact wI a j
    · show jR (if _ then 0 else jX h a j)
      split
      · exact jR_0
      · exact wX a j
    · show (if jN h ≤ 0 ∧ 0 ≤ jN h + n.toNat then _ else jS h 0 : Nat × Nat).1 = 99
      rw [if_neg (by omega)]; exact w0
    · show (if jN h ≤ 1 ∧ 1 ≤ jN h + n.toNat then _ else jS h 1 : Nat × Nat).1 = 15
      rw [if_neg (by omega)]; exact w1
    · have ha : jN h + 1 + n.toNat ≤ a := ha
      show (if jN h ≤ a ∧ a ≤ jN h + n.toNat then _ else jS h a : Nat × Nat).1 = 99
      rw [if_neg (by omega)]; exact wn a (by omega)
    · show (if jN h ≤ a ∧ a ≤ jN h + n.toNat then (if a = jN h then (20, n.toNat) else (16, k0.toNat)) else jS h a : Nat × Nat).2 < _
      split
      · split
        · show n.toNat < _; omega
        · show k0.toNat < _; omega
      · exact wl a
    · intro j q hj
      have hjl : j < jN h + 1 + n.toNat - 2 := by
        have := (List.getElem?_eq_some_iff.mp hj).1
        rw [jW_len] at this
        exact this
      have hg := jW_get G (jmul h n.toNat k0.toNat) (a := j + 2) (by omega) (by show j + 2 < jN h + 1 + n.toNat; omega)
      rw [show j + 2 - 2 = j by omega, hj] at hg
      obtain rfl := Option.some.inj hg
      by_cases c1 : j + 2 < jN h
      · rw [hEo _ c1]
        have hg2 := jW_get G h (a := j + 2) (by omega) c1
        rw [show j + 2 - 2 = j by omega] at hg2
        exact (hP _ _ hg2).kept (hold0 _ (by show jgz G + j < _; omega))
      · have qin : jN h ≤ j + 2 ∧ j + 2 ≤ jN h + n.toNat := by omega
        by_cases c2 : j + 2 = jN h
        · have e0 : jS (jmul h n.toNat k0.toNat) (j + 2) = (20, n.toNat) := (if_pos qin).trans (if_pos c2)
          rw [jE_arr (c := 20) (by rw [e0]) (by decide), jar_r (by decide), e0]
          show F.heap[jgz G + j]? = some (vp_cell (jgA G 20) (n.toNat, .inr (.inr (.inr (.inr fun i => jrf G (jY (jmul h n.toNat k0.toNat) (j + 2) i))))))
          rw [vp_cell_q, show jgz G + j = H.size by omega, f2, jouter]
          refine congrArg some (arrV_congr fun i hi => ?_)
          rw [if_pos hi]
          show _ = va_rf (jrf G (if jN h ≤ j + 2 ∧ j + 2 ≤ jN h + n.toNat then (if j + 2 = jN h ∧ i < n.toNat then jN h + 1 + i else 0) else jY h (j + 2) i))
          rw [if_pos qin, if_pos ⟨c2, hi⟩, jrf_at G (by omega)]
          rw [show jgz G + (jN h + 1 + i - 2) = H.size + 1 + i by omega]
        · have e0 : jS (jmul h n.toNat k0.toNat) (j + 2) = (16, k0.toNat) := (if_pos qin).trans (if_neg c2)
          rw [jE_arr (c := 16) (by rw [e0]) (by decide), jar_i (by decide), e0]
          show F.heap[jgz G + j]? = some (vp_cell (jgA G 16) (k0.toNat, .inl fun i => Int32.ofInt (jX (jmul h n.toNat k0.toNat) (j + 2) i)))
          rw [vp_cell_i]
          have hr1 := hrow (j + 2 - jN h - 1) (by omega)
          rw [show H.size + 1 + (j + 2 - jN h - 1) = jgz G + j by omega] at hr1
          rw [hr1]
          unfold Jvm.Free.Multi.innerC
          rw [arrV_new]
          refine congrArg some (arrV_congr fun i hi => ?_)
          show _ = Value.int (Int32.ofInt (if jN h ≤ j + 2 ∧ j + 2 ≤ jN h + n.toNat then 0 else jX h (j + 2) i))
          rw [if_pos qin]
          rfl
    · have := hSS.1
      omega
    · exact (hold0 q (by have := hSS.1; omega)).trans (hSS.2.1 q hq hA)
    · show F.heap.size = jgz G + (jN h + 1 + n.toNat - 2)
      omega
    · have q : ¬ (jN h ≤ 1 ∧ 1 ≤ jN h + n.toNat) := by omega
      rw [show jS (jmul h n.toNat k0.toNat) 1 = jS h 1 from if_neg q, show jX (jmul h n.toNat k0.toNat) 1 = jX h 1 from funext fun _ => if_neg q]
      exact hX.kept (hold0 _ (by omega))
  obtain ⟨t, a1, b1⟩ := k p l e R s m args below meth c G MC MS Z F.heap locs (cells + 1 + n.toNat) (slots + n.toNat + n.toNat * k0.toNat) ls cx hok' hls (jst_cons (v := .inr (jN h)) trivial (jst_tl (jst_tl hst))) (by omega) (by omega) (by omega) F rfl X'
  refine ⟨t, step t ?_, b1⟩
  rw [List.map_cons, show jV G (.inr (jN h)) = .ref (jgz G + (jN h - 2)) from jrf_new G h h2, show jgz G + (jN h - 2) = T.heap.size by rw [hT]; omega] at a1
  exact a1
end JM
