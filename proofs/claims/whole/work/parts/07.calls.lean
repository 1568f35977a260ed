/-! ===== new cells, arraycopy, calls, over V ===== -/
section JL
variable {M : jM} {d pc mc ms : Nat} {L : List (Option jA)} {st : List jA} {h : jH} {Q : Option jA → jH → Prop}
theorem jz_at {α : Type} {f : Nat → Nat → α} {a : Nat} {v : α} (k : Nat) : jz f a v a k = v := if_pos rfl
theorem jz_ne {α : Type} {f : Nat → Nat → α} {a b : Nat} {v : α} (hb : b ≠ a) : jz f a v b = f b := funext fun _ => if_neg hb
theorem jnew_o {G : jG} {h : jH} {kind len b : Nat} (hb : b ≠ jN h) : jE G (jnew h kind len) b = jE G h b := jE_eq (if_neg hb) (jz_ne hb) (jz_ne hb) (jz_ne hb) (jz_ne hb)
theorem jnew_W (G : jG) (h : jH) (kind len : Nat) (h2 : 2 ≤ jN h) : jW G (jnew h kind len) = jW G h ++ [(jgz G + (jN h - 2), jE G (jnew h kind len) (jN h))] := by
  unfold jW
  rw [show jN (jnew h kind len) - 2 = (jN h - 2) + 1 by show jN h + 1 - 2 = _; omega, List.range_succ, List.map_append]
  congr 1
  · refine List.map_congr_left (fun i hi => ?_)
    rw [jnew_o (by have := List.mem_range.mp hi; omega)]
  · simp only [List.map_cons, List.map_nil, show jN h - 2 + 2 = jN h by omega]
theorem jnew_wf {h : jH} {kind len : Nat} (hw : jWf h) (hl : len < 2147483648) : jWf (jnew h kind len) := by
  obtain ⟨h2, hI, hX, h0, h1, hn, hlen⟩ := hw
  refine ⟨by show 2 ≤ jN h + 1; omega, fun a k => ?_, fun a k => ?_, ?_, ?_, fun a ha => ?_, fun a => ?_⟩
  · show jR (jz (jI h) (jN h) 0 a k)
    unfold jz
    split
    · exact jR_0
    · exact hI a k
  · show jR (jz (jX h) (jN h) 0 a k)
    unfold jz
    split
    · exact jR_0
    · exact hX a k
  · show (if 0 = jN h then (kind, len) else jS h 0).1 = 99
    rw [if_neg (by omega)]; exact h0
  · show (if 1 = jN h then (kind, len) else jS h 1).1 = 15
    rw [if_neg (by omega)]; exact h1
  · have ha : jN h + 1 ≤ a := ha
    show (if a = jN h then (kind, len) else jS h a).1 = 99
    rw [if_neg (by omega)]; exact hn a (by omega)
  · show (if a = jN h then (kind, len) else jS h a).2 < _
    split
    · exact hl
    · exact hlen a
theorem jW_len (G : jG) (h : jH) : (jW G h).length = jN h - 2 := by simp [jW]
theorem jrf_new (G : jG) (h : jH) (h2 : 2 ≤ jN h) : va_rf (jrf G (jN h)) = .ref (jgz G + (jN h - 2)) := by rw [jrf_at G h2]; rfl
/-- behind a new cell -/
theorem jfinN {p : Program} {l : Launch} {e : Env} {R : Room} {s : State} {m : MethodId} {args : Array Value} {below : List Frame} {meth : Method} {c : Code} {H : Heap} {locs : List Loc} {cells : Nat} {Z : State → Prop} {G : jG} {h : jH} {kind len q : Nat} {E : va_E} {H1 : Heap} {locs1 : List Loc} {slots1 : Nat} {g : Nat → JFrame} (hok : jOk G h s.heap H locs s) (hz : H.size = s.heap.size + cells) (hl : len < 2147483648) (hE : jE G (jnew h kind len) (jN h) = E)
    (hP1 : va_P (jgD G) jcl (jW G h ++ [(q, E)]) H1) (hD1 : va_D (jAt G) (jW G h ++ [(q, E)])) (hSS : va_S (jAt G) H H1 locs1)
    (kk : jOk G (jnew h kind len) s.heap H1 locs1 s → H1.size = s.heap.size + (cells + 1) → W p l e R s m args below meth c H1 locs1 (cells + 1) slots1 Z (g (jgz G + (jN h - 2)))) : W p l e R s m args below meth c H1 locs1 (cells + 1) slots1 Z (g q) := by
  intro T hT X
  have hup := X.heapSize
  rw [hT] at hup
  obtain ⟨hw, hst, hP, hS0, hsz, hbz, hz0, hX⟩ := hok
  have hlast : (jW G h ++ [(q, E)])[jN h - 2]? = some (q, E) := by
    rw [List.getElem?_append_right (by rw [jW_len]; omega), jW_len, Nat.sub_self]; rfl
  have hq1 : q < H1.size := (hP1 _ _ hlast).lt
  have hq2 : jgz G ≤ q := hD1.2 _ _ hlast
  have hge : jgz G + (jN h - 2) ≤ q := by
    rcases Nat.lt_or_ge q (jgz G + (jN h - 2)) with z | z
    · exfalso
      have hg := jW_get G h (a := q - jgz G + 2) (by omega) (by omega)
      rw [show q - jgz G + 2 - 2 = q - jgz G by omega] at hg
      have hg' : (jW G h ++ [(q, E)])[q - jgz G]? = some (jgz G + (q - jgz G), jE G h (q - jgz G + 2)) := by
        rw [List.getElem?_append_left (by rw [jW_len]; omega)]; exact hg
      have := hD1.1 _ _ _ _ hg' hlast (show jgz G + (q - jgz G) = q by omega)
      omega
    · exact z
  have h1 := hSS.1
  obtain rfl : q = jgz G + (jN h - 2) := by omega
  refine kk ⟨jnew_wf hw hl, hst, ?_, ⟨by omega, fun q hq hA => (hSS.2.1 q (by omega) hA).trans (hS0.2.1 q hq hA), hSS.2.2⟩, ?_, hbz, hz0, ?_⟩ (by omega) T hT X
  · rw [jnew_W G h kind len hw.1, hE]; exact hP1
  · show H1.size = jgz G + (jN h + 1 - 2)
    have := hw.1
    omega
  · have e1 : jS (jnew h kind len) 1 = jS h 1 := if_neg (by have := hw.1; omega)
    have e2 : jX (jnew h kind len) 1 = jX h 1 := jz_ne (by have := hw.1; omega)
    rw [e1, e2]
    exact hX.kept (hSS.2.1 _ (by omega) (by show ¬ jgz G ≤ jgb G; omega))
theorem jfv_new {G : jG} {h : jH} {kind len c k : Nat} : jfv G (jnew h kind len) (jN h) c k = if jrt (jt_ c k) then .null else .int 0 := by
  unfold jfv
  rw [show jP (jnew h kind len) (jN h) k = 0 from jz_at k, show jI (jnew h kind len) (jN h) k = 0 from jz_at k]
  rfl
theorem jF_lt : ∀ c, c < 10 → jF_ c < 2147483648 := by decide
theorem jnfw : nativeFrameWords "java/lang/System" "arraycopy" 5 ≤ 40 := by decide +kernel
theorem jdef : ∀ c, c < 10 → ∀ k, k < jF_ c → defaultValue (jt_ c k) = if jrt (jt_ c k) then .null else .int 0 := by
  intro c hc k hk
  have h1 := jty_ref c hc k hk
  cases hr : jrt (jt_ c k) with
  | true =>
    rcases h1 hr with ⟨C, h⟩ | ⟨u, h⟩ <;> rw [h] <;> rfl
  | false =>
    generalize jt_ c k = t at hr
    cases t <;> first | rfl | cases hr
theorem V_new {ix ci n : Nat} (hd : decode (jmC M) pc = .ok (.new ix, 3)) (hn : n = jF_ ci) (hci : ci < 10) (hcl : Cond.classLink (jmO M) ix (jR_ ci) ∈ jTs) (hin : Cond.instantiable (jR_ ci) n ∈ jTs) (hini : Cond.initialized (jR_ ci) ∈ jTs)
    (k : V M d (pc + 3) L (.inr (jN h) :: st) (jnew h ci n) mc ms Q) : V M d pc L st h (mc + 1) (ms + n) Q := by
  intro p l e R s m args below meth c G MC MS Z H locs cells slots ls cx hok hls hst hc hs hz
  obtain ⟨hx, hb, hml, hown, hts, hnm, hfr, hlo, hMC, hMS, hZ⟩ := id cx
  subst hn
  have h2 := hok.1.1
  have hE : jE G (jnew h ci (jF_ ci)) (jN h) = .inr (ci, jfs G (jnew h ci (jF_ ci)) (jN h) ci) := jE_obj (by show (if jN h = jN h then _ else _ : Nat × Nat).1 = ci; rw [if_pos rfl]) hci
  refine va_new (ci := ci) (fs := jfs G (jnew h ci (jF_ ci)) (jN h) ci) (C := jR_ ci) (T := jT_ ci) (N := jF_ ci) hx hb hts (jin ci hci) (jt_ ci) (jt_ok ci hci) hown (hts _ hcl) (hts _ hin) (hts _ hini) hok.2.1.1 hok.2.2.1 (jD G h) (jS_rf hok.2.2.2.1) (fun q hq => by show jgz G ≤ q; have := hok.2.2.2.2.1; omega) (jcl_get ci hci)
    (fun j hj => by unfold vp_V; rw [List.getD_eq_getElem?_getD, jfs_get hj, jfv_new, ← jdef ci hci j hj]; rfl) (by omega) (by omega) hd (fun q H1 hP1 hD1 hS1 => ?_)
  refine jfinN (kind := ci) (len := jF_ ci) (g := fun q => F0 m (pc + 3) ls (.ref q :: st.map (jV G))) hok hz (jF_lt ci hci) hE hP1 hD1 hS1 (fun hok1 hz1 => ?_)
  have k1 := k p l e R s m args below meth c G MC MS Z H1 locs (cells + 1) (slots + jF_ ci) ls cx hok1 hls (jst_cons (v := .inr (jN h)) trivial hst) (by omega) (by omega) hz1
  rw [List.map_cons, show jV G (.inr (jN h)) = .ref (jgz G + (jN h - 2)) from jrf_new G h h2] at k1
  exact k1
theorem V_newi {n : Int} (hd : decode (jmC M) pc = .ok (.newarray .int, 2)) (hac : Cond.arrayClass .int ∈ jTs) (h0 : 0 ≤ n) (h1 : n ≤ 100000)
    (k : V M d (pc + 2) L (.inr (jN h) :: st) (jnew h 16 n.toNat) mc ms Q) : V M d pc L (.inl n :: st) h (mc + 1) (ms + n.toNat) Q := by
  intro p l e R s m args below meth c G MC MS Z H locs cells slots ls cx hok hls hst hc hs hz
  obtain ⟨hx, hb, hml, hown, hts, hnm, hfr, hlo, hMC, hMS, hZ⟩ := id cx
  have h2 := hok.1.1
  have hr : jR n := jst_hd hst
  have hE : jE G (jnew h 16 n.toNat) (jN h) = .inl (jgA G 16, (n.toNat, .inl (fun _ => 0))) := by
    have e0 : jS (jnew h 16 n.toNat) (jN h) = (16, n.toNat) := if_pos rfl
    rw [jE_arr (c := 16) (by rw [e0]) (by decide), jar_i (by decide), e0]
    refine congrArg (fun f => (Sum.inl (jgA G 16, n.toNat, .inl f) : va_E)) (funext fun j => ?_)
    rw [show jX (jnew h 16 n.toNat) (jN h) j = 0 from jz_at j]
    rfl
  refine va_newa (atype := .int) (ty := .int) (a0 := (n.toNat, .inl (fun _ => 0))) (N' := n.toNat) hx hb (hts _ hac) rfl hok.2.1.1 hok.2.2.1 (jD G h) (jS_rf hok.2.2.2.1) (fun q hq => by show jgz G ≤ q; have := hok.2.2.2.2.1; omega)
    (fun cA => rfl) (j_nneg hr h0) (j_ix hr) (by show n.toNat * 4 ≤ _; omega) (by omega) (by omega) hd (fun q cA H1 hK1 hP1 hD1 hS1 => ?_)
  have hcA : cA = jgA G 16 := by
    have e1 := (hK1.2 5 (cA, .int) rfl).2
    have e2 := (hK1.2 0 (jgA G 16, .int) rfl).2
    exact Option.some.inj ((show _ = some cA from e1).symm.trans (show _ = some (jgA G 16) from e2))
  subst hcA
  refine jfinN (kind := 16) (len := n.toNat) (g := fun q => F0 m (pc + 2) ls (.ref q :: st.map (jV G))) hok hz (by omega) hE hP1 hD1 hS1 (fun hok1 hz1 => ?_)
  have k1 := k p l e R s m args below meth c G MC MS Z H1 locs (cells + 1) (slots + n.toNat) ls cx hok1 hls (jst_cons (v := .inr (jN h)) trivial (jst_tl hst)) (by omega) (by omega) hz1
  rw [List.map_cons, show jV G (.inr (jN h)) = .ref (jgz G + (jN h - 2)) from jrf_new G h h2] at k1
  exact k1
theorem V_newz {n : Int} (hd : decode (jmC M) pc = .ok (.newarray .boolean, 2)) (hac : Cond.arrayClass .boolean ∈ jTs) (h0 : 0 ≤ n) (h1 : n ≤ 100000)
    (k : V M d (pc + 2) L (.inr (jN h) :: st) (jnew h 17 n.toNat) mc ms Q) : V M d pc L (.inl n :: st) h (mc + 1) (ms + n.toNat) Q := by
  intro p l e R s m args below meth c G MC MS Z H locs cells slots ls cx hok hls hst hc hs hz
  obtain ⟨hx, hb, hml, hown, hts, hnm, hfr, hlo, hMC, hMS, hZ⟩ := id cx
  have h2 := hok.1.1
  have hr : jR n := jst_hd hst
  have hE : jE G (jnew h 17 n.toNat) (jN h) = .inl (jgA G 17, (n.toNat, .inl (fun _ => 0))) := by
    have e0 : jS (jnew h 17 n.toNat) (jN h) = (17, n.toNat) := if_pos rfl
    rw [jE_arr (c := 17) (by rw [e0]) (by decide), jar_i (by decide), e0]
    refine congrArg (fun f => (Sum.inl (jgA G 17, n.toNat, .inl f) : va_E)) (funext fun j => ?_)
    rw [show jX (jnew h 17 n.toNat) (jN h) j = 0 from jz_at j]
    rfl
  refine va_newa (atype := .boolean) (ty := .boolean) (a0 := (n.toNat, .inl (fun _ => 0))) (N' := n.toNat) hx hb (hts _ hac) rfl hok.2.1.1 hok.2.2.1 (jD G h) (jS_rf hok.2.2.2.1) (fun q hq => by show jgz G ≤ q; have := hok.2.2.2.2.1; omega)
    (fun cA => rfl) (j_nneg hr h0) (j_ix hr) (by show n.toNat * 1 ≤ _; omega) (by omega) (by omega) hd (fun q cA H1 hK1 hP1 hD1 hS1 => ?_)
  have hcA : cA = jgA G 17 := by
    have e1 := (hK1.2 5 (cA, .boolean) rfl).2
    have e2 := (hK1.2 1 (jgA G 17, .boolean) rfl).2
    exact Option.some.inj ((show _ = some cA from e1).symm.trans (show _ = some (jgA G 17) from e2))
  subst hcA
  refine jfinN (kind := 17) (len := n.toNat) (g := fun q => F0 m (pc + 2) ls (.ref q :: st.map (jV G))) hok hz (by omega) hE hP1 hD1 hS1 (fun hok1 hz1 => ?_)
  have k1 := k p l e R s m args below meth c G MC MS Z H1 locs (cells + 1) (slots + n.toNat) ls cx hok1 hls (jst_cons (v := .inr (jN h)) trivial (jst_tl hst)) (by omega) (by omega) hz1
  rw [List.map_cons, show jV G (.inr (jN h)) = .ref (jgz G + (jN h - 2)) from jrf_new G h h2] at k1
  exact k1
theorem V_newq18 {ix : Nat} {n : Int} (hd : decode (jmC M) pc = .ok (.anewarray ix, 3)) (hcl : Cond.classLink (jmO M) ix RX0 ∈ jTs) (h0 : 0 ≤ n) (h1 : n ≤ 100000)
    (k : V M d (pc + 3) L (.inr (jN h) :: st) (jnew h 18 n.toNat) mc ms Q) : V M d pc L (.inl n :: st) h (mc + 1) (ms + n.toNat) Q := by
  intro p l e R s m args below meth c G MC MS Z H locs cells slots ls cx hok hls hst hc hs hz
  obtain ⟨hx, hb, hml, hown, hts, hnm, hfr, hlo, hMC, hMS, hZ⟩ := id cx
  have h2 := hok.1.1
  have hr : jR n := jst_hd hst
  have hE : jE G (jnew h 18 n.toNat) (jN h) = .inl (jgA G 18, (n.toNat, .inr (.inr (.inr (.inr (fun _ => none)))))) := by
    have e0 : jS (jnew h 18 n.toNat) (jN h) = (18, n.toNat) := if_pos rfl
    rw [jE_arr (c := 18) (by rw [e0]) (by decide), jar_r (by decide), e0]
    refine congrArg (fun f => (Sum.inl (jgA G 18, n.toNat, .inr (.inr (.inr (.inr f)))) : va_E)) (funext fun j => ?_)
    rw [show jY (jnew h 18 n.toNat) (jN h) j = 0 from jz_at j]
    rfl
  refine va_newq (C := RX0) (N' := n.toNat) hx hb hown (hts _ hcl) hok.2.1.2.2.1 hok.2.1.1 hok.2.2.1 (jD G h) (jS_rf hok.2.2.2.1) (fun q hq => by show jgz G ≤ q; have := hok.2.2.2.2.1; omega)
    (j_nneg hr h0) (j_ix hr) (by omega) (by omega) (by omega) hd (fun q cA H1 hK1 hP1 hD1 hS1 => ?_)
  have hcA : cA = jgA G 18 := by
    obtain ⟨_, _, _, _, _, e1⟩ := (hK1.2 5 (cA, .object RX0) rfl).2
    obtain ⟨_, _, _, _, _, e2⟩ := (hK1.2 2 (jgA G 18, .object RX0) rfl).2
    exact Option.some.inj (e1.symm.trans e2)
  subst hcA
  refine jfinN (kind := 18) (len := n.toNat) (g := fun q => F0 m (pc + 3) ls (.ref q :: st.map (jV G))) hok hz (by omega) hE hP1 hD1 hS1 (fun hok1 hz1 => ?_)
  have k1 := k p l e R s m args below meth c G MC MS Z H1 locs (cells + 1) (slots + n.toNat) ls cx hok1 hls (jst_cons (v := .inr (jN h)) trivial (jst_tl hst)) (by omega) (by omega) hz1
  rw [List.map_cons, show jV G (.inr (jN h)) = .ref (jgz G + (jN h - 2)) from jrf_new G h h2] at k1
  exact k1
theorem V_newq19 {ix : Nat} {n : Int} (hd : decode (jmC M) pc = .ok (.anewarray ix, 3)) (hcl : Cond.classLink (jmO M) ix RX6 ∈ jTs) (h0 : 0 ≤ n) (h1 : n ≤ 100000)
    (k : V M d (pc + 3) L (.inr (jN h) :: st) (jnew h 19 n.toNat) mc ms Q) : V M d pc L (.inl n :: st) h (mc + 1) (ms + n.toNat) Q := by
  intro p l e R s m args below meth c G MC MS Z H locs cells slots ls cx hok hls hst hc hs hz
  obtain ⟨hx, hb, hml, hown, hts, hnm, hfr, hlo, hMC, hMS, hZ⟩ := id cx
  have h2 := hok.1.1
  have hr : jR n := jst_hd hst
  have hE : jE G (jnew h 19 n.toNat) (jN h) = .inl (jgA G 19, (n.toNat, .inr (.inr (.inr (.inr (fun _ => none)))))) := by
    have e0 : jS (jnew h 19 n.toNat) (jN h) = (19, n.toNat) := if_pos rfl
    rw [jE_arr (c := 19) (by rw [e0]) (by decide), jar_r (by decide), e0]
    refine congrArg (fun f => (Sum.inl (jgA G 19, n.toNat, .inr (.inr (.inr (.inr f)))) : va_E)) (funext fun j => ?_)
    rw [show jY (jnew h 19 n.toNat) (jN h) j = 0 from jz_at j]
    rfl
  refine va_newq (C := RX6) (N' := n.toNat) hx hb hown (hts _ hcl) hok.2.1.2.2.2.1 hok.2.1.1 hok.2.2.1 (jD G h) (jS_rf hok.2.2.2.1) (fun q hq => by show jgz G ≤ q; have := hok.2.2.2.2.1; omega)
    (j_nneg hr h0) (j_ix hr) (by omega) (by omega) (by omega) hd (fun q cA H1 hK1 hP1 hD1 hS1 => ?_)
  have hcA : cA = jgA G 19 := by
    obtain ⟨_, _, _, _, _, e1⟩ := (hK1.2 5 (cA, .object RX6) rfl).2
    obtain ⟨_, _, _, _, _, e2⟩ := (hK1.2 3 (jgA G 19, .object RX6) rfl).2
    exact Option.some.inj (e1.symm.trans e2)
  subst hcA
  refine jfinN (kind := 19) (len := n.toNat) (g := fun q => F0 m (pc + 3) ls (.ref q :: st.map (jV G))) hok hz (by omega) hE hP1 hD1 hS1 (fun hok1 hz1 => ?_)
  have k1 := k p l e R s m args below meth c G MC MS Z H1 locs (cells + 1) (slots + n.toNat) ls cx hok1 hls (jst_cons (v := .inr (jN h)) trivial (jst_tl hst)) (by omega) (by omega) hz1
  rw [List.map_cons, show jV G (.inr (jN h)) = .ref (jgz G + (jN h - 2)) from jrf_new G h h2] at k1
  exact k1
theorem jcat (G : jG) : ∀ st : List jA, ((st.map (jV G)).map fun v => v.category).sum = st.length
  | [] => rfl
  | v :: st => by
    rw [List.map_cons, List.map_cons, List.sum_cons, jV_cat, jcat G st, List.length_cons]
    omega
theorem V_copy {ix a0 a1 : Nat} {sp dp n : Int} (hd : decode (jmC M) pc = .ok (.invokestatic ix, 3)) (hl : Cond.methodLink (jmO M) ix arraycopyName ∈ jTs) (hnat : Cond.native arraycopyName ∈ jTs) (hstt : Cond.static arraycopyName ∈ jTs) (hini : Cond.initialized "java/lang/System" ∈ jTs) (hS0 : (jS h a0).1 = 16) (hS1 : (jS h a1).1 = 16) (h1 : 0 ≤ sp) (h2 : 0 ≤ dp) (h3 : 0 ≤ n) (h4 : sp + n ≤ (jS h a0).2) (h5 : dp + n ≤ (jS h a1).2) (hrl : st.length ≤ 8)
    (k : V M d (pc + 3) L st (jcpy h a0 sp.toNat a1 dp.toNat n.toNat) mc ms Q) : V M d pc L (.inl n :: .inl dp :: .inr a1 :: .inl sp :: .inr a0 :: st) h mc ms Q := by
  intro p l e R s m args below meth c G MC MS Z H locs cells slots ls cx hok hls hst hc hs hz
  obtain ⟨hx, hb, hml, hown, hts, hnm, hfr, hlo, hMC, hMS, hZ⟩ := id cx
  obtain ⟨b2, bn, be⟩ := jarr (G := G) hok.1 hS0 (by decide) (by decide)
  obtain ⟨c2, cn, ce⟩ := jarr (G := G) hok.1 hS1 (by decide) (by decide)
  rw [jar_i (by decide)] at be ce
  have rn : jR n := jst_hd hst
  have rd : jR dp := jst_hd (jst_tl hst)
  have rs : jR sp := jst_hd (jst_tl (jst_tl (jst_tl hst)))
  simp only [List.map_cons]
  rw [show jV G (.inr a1) = .ref (jgz G + (a1 - 2)) by (show va_rf (jrf G a1) = _; rw [jrf_at G c2]; rfl), show jV G (.inr a0) = .ref (jgz G + (a0 - 2)) by (show va_rf (jrf G a0) = _; rw [jrf_at G b2]; rfl)]
  refine va_copyi hx hb (hml.trans hls.1.symm) hown (hts _ hl) (hts _ hnat) (hts _ hstt) (hts _ hini) hok.2.1.1 hok.2.2.1 (jD G h) (jS_rf hok.2.2.2.1) (a0 - 2) (a1 - 2) 0 0 be ce rfl rfl rfl
    (j_nneg rs h1) (j_nneg rd h2) (j_nneg rn h3) (by rw [j_ix rs, j_ix rn]; omega) (by rw [j_ix rd, j_ix rn]; omega) (fun _ _ => rfl) (by omega) (by rw [jcat]; have := jnfw; omega) hd (fun H1 locs1 hP1 _ hSS => ?_)
  have hE : jE G (jcpy h a0 sp.toNat a1 dp.toNat n.toNat) a1 = .inl (jgA G 16, (jS h a1).2, .inl (va_cpy (fun j => Int32.ofInt (jX h a0 j)) (fun j => Int32.ofInt (jX h a1 j)) (Int32.ofInt sp).toNatClampNeg (Int32.ofInt dp).toNatClampNeg (Int32.ofInt n).toNatClampNeg)) := by
    rw [jE_arr (show (jS (jcpy h a0 sp.toNat a1 dp.toNat n.toNat) a1).1 = 16 from hS1) (by decide), jar_i (by decide), j_ix rs, j_ix rd, j_ix rn]
    refine congrArg (fun f => (Sum.inl (jgA G 16, (jS h a1).2, .inl f) : va_E)) (funext fun j => ?_)
    show Int32.ofInt (if a1 = a1 ∧ dp.toNat ≤ j ∧ j < dp.toNat + n.toNat then jX h a0 (sp.toNat + (j - dp.toNat)) else jX h a1 j) = _
    unfold va_cpy
    by_cases q : dp.toNat ≤ j ∧ j < dp.toNat + n.toNat
    · rw [if_pos ⟨rfl, q⟩, if_pos q]
    · rw [if_neg (fun z => q z.2), if_neg q]
  have ho : ∀ b, b ≠ a1 → jE G (jcpy h a0 sp.toNat a1 dp.toNat n.toNat) b = jE G h b := fun b hb2 => jE_eq rfl rfl rfl (funext fun j => if_neg (fun z => hb2 z.1)) rfl
  have hW := jW_ext (h := h) (h' := jcpy h a0 sp.toNat a1 dp.toNat n.toNat) rfl c2 cn hE ho
  refine jfin (h' := jcpy h a0 sp.toNat a1 dp.toNat n.toNat) hok hz rfl rfl (funext fun j => if_neg (fun z => absurd z.1 (by omega))) ?_ (by rw [hW]; exact hP1) hSS (fun hok1 hz1 => k p l e R s m args below meth c G MC MS Z H1 locs1 cells slots ls cx hok1 hls (jst_tl (jst_tl (jst_tl (jst_tl (jst_tl hst))))) hc hs hz1)
  refine ⟨hok.1.1, hok.1.2.1, fun a k2 => ?_, hok.1.2.2.2⟩
  show jR (if a = a1 ∧ _ then jX h a0 _ else jX h a k2)
  split
  · exact hok.1.2.2.1 _ _
  · exact hok.1.2.2.1 _ _
def jMt (N : jM) (n : Nat) : Prop := Cond.code (jmY N) (jmC N) (jmL N) (jmR N) ∈ jTs ∧ Cond.initialized (jmY N).cls ∈ jTs ∧ ((jmY N).cls ≠ "java/lang/invoke/MethodHandle" ∧ (jmY N).cls ≠ "java/lang/invoke/VarHandle" ∧ (parseMethodDescriptor (jmY N).desc).map (fun d => d.parameters.length) = some n) ∧ jmL N ≤ 40 ∧ plainName (jmY N).cls = true
theorem jws_good {N : jM} {n : Nat} (hN : jMt N n) : GoodIn jTs (jws N) := fun q hq => by
  rcases List.mem_cons.mp hq with rfl | hq
  · exact jTs_good hN.1
  · exact jTs_good hq
/-- the picture at a callee's start -/
theorem jstart {G : jG} {s U : State} {H0 H : Heap} {locs : List Loc} (hok : jOk G h H0 H locs s) (hU : U.heap = H) (hW : s.WarmedH U.vm) : jOk G h U.heap U.heap [] U := by
  subst hU
  obtain ⟨hw, hst, hP, hS0, hsz, hbz, hz0, hX⟩ := hok
  exact ⟨hw, hst.warm hW, hP, va_S.rf, hsz, hbz, by omega, hX.moved hW.alike⟩
theorem jPc_blind {G : jG} {as : List jA} : FrameBlind (jPc G as h) := by
  intro a U g mk q
  obtain ⟨q0, q1, hw, hst, hP, hS0, hsz, hbz, hz0, hX⟩ := q
  exact ⟨q0, q1, hw, hst.same (show U.vm = (U.calling g mk a).vm from rfl), hP, hS0, hsz, hbz, hz0, hX.moved (U := U.calling g mk a) (Vm.Alike.refl U.vm)⟩
/-- behind a call -/
theorem jcall {p : Program} {l : Launch} {e : Env} {R : Room} {s : State} {m : MethodId} {args : Array Value} {below : List Frame} {meth : Method} {c : Code} {H : Heap} {locs : List Loc} {cells slots : Nat} {Z : State → Prop} {G : jG} {g : Nat → Array Slot → List Value → JFrame} {pc0 : Nat} {ls : Array Slot} {rest st0 : List Value} {a : Array Value} {mc' ms' : Nat} {Q' : Option jA → jH → Prop}
    (hr : va_Run p l e R s m args below meth c H locs cells slots mc' ms' (F0 m pc0 ls st0) rest (jQc G mc' Q' a) (jAt G)) (hok : jOk G h s.heap H locs s) (hz : H.size = s.heap.size + cells)
    (kk : ∀ (v : Option jA) (h' : jH) (H' : Heap) (locs' : List Loc), Q' v h' → (∀ x, v = some x → jRA x) → jOk G h' s.heap H' locs' s → H'.size = s.heap.size + (cells + mc') → W p l e R s m args below meth c H' locs' (cells + mc') (slots + ms') Z (F0 m (pc0 + 3) ls (v.toList.map (jV G) ++ rest))) :
    W p l e R s m args below meth c H locs cells slots Z (F0 m pc0 ls st0) := by
  intro T hT X
  obtain ⟨v, st₀, t, T', L9, h0, X', hL, e1, e2, ⟨v', h', hv, hQ, hra, hok', hsz'⟩, stp⟩ := hr T hT X
  obtain rfl : v = v'.map (jV G) := Outcome.returned.inj hv
  rw [h0] at hok' hsz'
  have hW : s.WarmedH T'.vm := X'.warmed
  obtain ⟨hw, hst, hP, hS0, hsz, hbz, hz0, hX⟩ := hok
  obtain ⟨hw1, hst1, hP1, hS1, hsz1, -, -, hX1⟩ := hok'
  have hold : ∀ q : Nat, q < H.size → ¬ jAt G q → t.heap[q]? = H[q]? := hS1.2.1
  have hok2 : jOk G h' s.heap t.heap (locs ++ L9) s := by
    refine ⟨hw1, hst, hP1, ⟨by omega, fun q hq hA => (hold q (by have := hS0.1; omega) hA).trans (hS0.2.1 q hq hA), fun q hq => ?_⟩, hsz1, hbz, hz0, ?_⟩
    · rcases List.mem_append.mp hq with z | z
      · exact hS0.2.2 q z
      · exact hL q z
    · rw [e2] at hW
      obtain ⟨scr, x1, x2, x3, x4, x5⟩ := hX1
      exact ⟨scr, x1, State.isArrayOf_alike hW.alike.symm x2, x3, x4, x5⟩
  obtain ⟨t2, a1, b1⟩ := kk v' h' t.heap (locs ++ L9) hQ hra hok2 (by omega) T' e1 X'
  have e3 : (v'.map (jV G)).toList ++ rest = v'.toList.map (jV G) ++ rest := by cases v' <;> rfl
  exact ⟨t2, stp t2 (by show Steps _ _ _ (T'.setTop (F0 m (pc0 + 3) ls ((v'.map (jV G)).toList ++ rest))) t2; rw [e3]; exact a1), b1⟩
theorem jcat_le {G : jG} {ls : Array Slot} {st0 : List Value} {pc0 : Nat} {m : MethodId} {rest : List jA} (hr : rest.length ≤ 8) : 2 * (F0 m pc0 ls st0).monitorRoom + ((rest.map (jV G)).map fun v => v.category).sum ≤ 8 := lv_room (by rw [jcat]; exact hr)
theorem jmap_app (G : jG) (as : List jA) (x : jA) (rest : List jA) : (as.reverse ++ x :: rest).map (jV G) = (as.map (jV G)).reverse ++ jV G x :: rest.map (jV G) := by simp
theorem jmap_app2 (G : jG) (as : List jA) (rest : List jA) : (as.reverse ++ rest).map (jV G) = (as.map (jV G)).reverse ++ rest.map (jV G) := by simp
theorem V_callV {N : jM} {d' mc' ms' a n ix : Nat} {As rest : List jA} {st0 : List jA} (hd : decode (jmC M) pc = .ok (.invokevirtual ix, 3)) (hN : jMt N n) (hv : Cond.instanceMethod (jmY N) ∈ jTs ∧ Cond.selects (jmY N).cls (jmY N) (jmY N) ∈ jTs) (hl : Cond.methodLink (jmO M) ix (jmY N) ∈ jTs) {ci : Nat} (hS : (jS h a).1 = ci) (hci : ci < 10 ∧ jR_ ci = (jmY N).cls) (hn : As.length = n) (hst0 : st0 = As.reverse ++ .inr a :: rest) (hr : rest.length ≤ 8) (hdd : d' + 1 ≤ d)
    (E : Ex N d' (.inr a :: As) h mc' ms' (fun v h' => V M d (pc + 3) L (v.toList ++ rest) h' mc ms Q)) : V M d pc L st0 h (mc' + mc) (ms' + ms) Q := by
  intro p l e R s m args below meth c G MC MS Z H locs cells slots ls cx hok hls hst hc hs hz
  obtain ⟨hx, hb, hml, hown, hts, hnm, hfr, hlo, hMC, hMS, hZ⟩ := id cx
  subst hst0
  rw [jmap_app]
  obtain ⟨h2, hnn⟩ := jw_range hok.1 (a := a) (by rw [hS]; omega) (by rw [hS]; omega)
  have ha : jV G (.inr a) = .ref (jgz G + (a - 2)) := by show va_rf (jrf G a) = _; rw [jrf_at G h2]; rfl
  rw [ha]
  have hst3 : ∀ x ∈ ((.inr a : jA) :: As), jRA x := fun x hx9 => (List.mem_cons.mp hx9).elim (fun q => by rw [q]; exact trivial) (fun q => hst x (by simp [q]))
  have hpc : ∀ U : State, U.heap = H → s.WarmedH U.vm → jPc G (.inr a :: As) h (Value.ref (jgz G + (a - 2)) :: As.map (jV G)).toArray U := fun U hU hW => ⟨by rw [List.map_cons, ha], hst3, jstart hok hU hW⟩
  have hMet := E l G
  have hCB : CallB R s args (jmO M) ix (jmY N) (jmC N) (jmL N) (jmR N) (jws N) (jroom d' mc' ms') mc' ms' n := callB_of n hts (jws_good hN) rfl rfl rfl (hts _ hN.2.1) (hts _ hl) hN.2.2.1 ⟨by show d' + 1 + 1 ≤ _; omega, by show 8 + (jmL N + 11) + 64 * (d' + 1) ≤ _; have := hN.2.2.2.1; omega⟩
  have h8 := hlo
  have hst2 : ∀ x ∈ rest, jRA x := fun x hx9 => hst x (by simp [hx9])
  refine jcall (g := fun _ _ _ => F0 m pc ls []) (va_runV (As := As.map (jV G)) (rest := rest.map (jV G)) ⟨hx, hb, hml, hown, hts⟩ hMet ⟨hCB, hts _ hv.1, hts _ hv.2⟩ ⟨jPc_blind, by have hr1 := va_recv hok.2.1.1 hok.2.2.1 (jcl_get ci hci.1) (by have he := jW_get G h h2 hnn; rw [jE_obj hS hci.1] at he; exact he); rw [hci.2] at hr1; exact hr1, hpc⟩ rfl (by rw [List.length_map]; exact hn) hls.1 rfl (jcat_le hr) hd ⟨by omega, by omega⟩) hok hz (fun v h' H' locs' hQ hra hok' hz' => ?_)
  have k1 := hQ p l e R s m args below meth c G MC MS Z H' locs' (cells + mc') (slots + ms') ls cx hok' hls (fun x hx9 => (List.mem_append.mp hx9).elim (fun q => hra x (by cases v with
    | none => cases q
    | some y => rw [List.mem_singleton.mp q])) (hst2 x)) (by omega) (by omega) hz'
  rw [List.map_append] at k1
  exact k1
theorem V_callS {N : jM} {d' mc' ms' a n ix : Nat} {As rest : List jA} {st0 : List jA} (hd : decode (jmC M) pc = .ok (.invokestatic ix, 3)) (hN : jMt N n) (hv : Cond.static (jmY N) ∈ jTs) (hl : Cond.methodLink (jmO M) ix (jmY N) ∈ jTs) (hn : As.length = n) (hst0 : st0 = As.reverse ++ rest) (hr : rest.length ≤ 8) (hdd : d' + 1 ≤ d)
    (E : Ex N d' As h mc' ms' (fun v h' => V M d (pc + 3) L (v.toList ++ rest) h' mc ms Q)) : V M d pc L st0 h (mc' + mc) (ms' + ms) Q := by
  intro p l e R s m args below meth c G MC MS Z H locs cells slots ls cx hok hls hst hc hs hz
  obtain ⟨hx, hb, hml, hown, hts, hnm, hfr, hlo, hMC, hMS, hZ⟩ := id cx
  subst hst0
  rw [jmap_app2]
  have hst3 : ∀ x ∈ As, jRA x := fun x hx9 => hst x (by simp [hx9])
  have hpc : ∀ U : State, U.heap = H → s.WarmedH U.vm → jPc G As h (As.map (jV G)).toArray U := fun U hU hW => ⟨rfl, hst3, jstart hok hU hW⟩
  have hMet := E l G
  have hCB : CallB R s args (jmO M) ix (jmY N) (jmC N) (jmL N) (jmR N) (jws N) (jroom d' mc' ms') mc' ms' n := callB_of n hts (jws_good hN) rfl rfl rfl (hts _ hN.2.1) (hts _ hl) hN.2.2.1 ⟨by show d' + 1 + 1 ≤ _; omega, by show 8 + (jmL N + 11) + 64 * (d' + 1) ≤ _; have := hN.2.2.2.1; omega⟩
  have h8 := hlo
  have hst2 : ∀ x ∈ rest, jRA x := fun x hx9 => hst x (by simp [hx9])
  refine jcall (g := fun _ _ _ => F0 m pc ls []) (va_runS (As := As.map (jV G)) (rest := rest.map (jV G)) ⟨hx, hb, hml, hown, hts⟩ hMet ⟨hCB, hts _ hv⟩ ⟨jPc_blind, hpc⟩ rfl (by rw [List.length_map]; exact hn) hls.1 rfl (jcat_le hr) hd ⟨by omega, by omega⟩) hok hz (fun v h' H' locs' hQ hra hok' hz' => ?_)
  have k1 := hQ p l e R s m args below meth c G MC MS Z H' locs' (cells + mc') (slots + ms') ls cx hok' hls (fun x hx9 => (List.mem_append.mp hx9).elim (fun q => hra x (by cases v with
    | none => cases q
    | some y => rw [List.mem_singleton.mp q])) (hst2 x)) (by omega) (by omega) hz'
  rw [List.map_append] at k1
  exact k1
theorem V_callI {N : jM} {d' mc' ms' a n ix : Nat} {As rest : List jA} {st0 : List jA} (hd : decode (jmC M) pc = .ok (.invokespecial ix, 3)) (hN : jMt N n) (hv : (jmY N).name = "<init>" ∧ Cond.instanceMethod (jmY N) ∈ jTs) (hl : Cond.methodLink (jmO M) ix (jmY N) ∈ jTs) (hret : jmR N = none) {ci : Nat} (hS : (jS h a).1 = ci) (hci : ci < 10) (hn : As.length = n) (hst0 : st0 = As.reverse ++ .inr a :: rest) (hr : rest.length ≤ 8) (hdd : d' + 1 ≤ d)
    (E : Ex N d' (.inr a :: As) h mc' ms' (fun v h' => V M d (pc + 3) L (v.toList ++ rest) h' mc ms Q)) : V M d pc L st0 h (mc' + mc) (ms' + ms) Q := by
  intro p l e R s m args below meth c G MC MS Z H locs cells slots ls cx hok hls hst hc hs hz
  obtain ⟨hx, hb, hml, hown, hts, hnm, hfr, hlo, hMC, hMS, hZ⟩ := id cx
  subst hst0
  rw [jmap_app]
  obtain ⟨h2, hnn⟩ := jw_range hok.1 (a := a) (by rw [hS]; omega) (by rw [hS]; omega)
  have ha : jV G (.inr a) = .ref (jgz G + (a - 2)) := by show va_rf (jrf G a) = _; rw [jrf_at G h2]; rfl
  rw [ha]
  have hst3 : ∀ x ∈ ((.inr a : jA) :: As), jRA x := fun x hx9 => (List.mem_cons.mp hx9).elim (fun q => by rw [q]; exact trivial) (fun q => hst x (by simp [q]))
  have hpc : ∀ U : State, U.heap = H → s.WarmedH U.vm → jPc G (.inr a :: As) h (Value.ref (jgz G + (a - 2)) :: As.map (jV G)).toArray U := fun U hU hW => ⟨by rw [List.map_cons, ha], hst3, jstart hok hU hW⟩
  have hMet := E l G
  have hCB : CallB R s args (jmO M) ix (jmY N) (jmC N) (jmL N) (jmR N) (jws N) (jroom d' mc' ms') mc' ms' n := callB_of n hts (jws_good hN) rfl rfl rfl (hts _ hN.2.1) (hts _ hl) hN.2.2.1 ⟨by show d' + 1 + 1 ≤ _; omega, by show 8 + (jmL N + 11) + 64 * (d' + 1) ≤ _; have := hN.2.2.2.1; omega⟩
  have h8 := hlo
  have hst2 : ∀ x ∈ rest, jRA x := fun x hx9 => hst x (by simp [hx9])
  refine jcall (g := fun _ _ _ => F0 m pc ls []) (va_runI (As := As.map (jV G)) (rest := rest.map (jV G)) ⟨hx, hb, hml, hown, hts⟩ hMet ⟨by rw [hret] at hCB; exact hCB, hv.1, hts _ hv.2⟩ ⟨jPc_blind, hpc⟩ rfl (by rw [List.length_map]; exact hn) hls.1 rfl (jcat_le hr) hd ⟨by omega, by omega⟩) hok hz (fun v h' H' locs' hQ hra hok' hz' => ?_)
  have k1 := hQ p l e R s m args below meth c G MC MS Z H' locs' (cells + mc') (slots + ms') ls cx hok' hls (fun x hx9 => (List.mem_append.mp hx9).elim (fun q => hra x (by cases v with
    | none => cases q
    | some y => rw [List.mem_singleton.mp q])) (hst2 x)) (by omega) (by omega) hz'
  rw [List.map_append] at k1
  exact k1
theorem V_callInest {N : jM} {d' mc' ms' a n ix : Nat} {As rest : List jA} {st0 : List jA} (hd : decode (jmC M) pc = .ok (.invokespecial ix, 3)) (hN : jMt N n) (hv : (jmY N).name = "<init>" ∧ Cond.instanceMethod (jmY N) ∈ jTs) {host : String} (hl : Cond.methodLinkNest (jmO M) ix (jmY N) host ∈ lw_tbl) (hret : jmR N = none) {ci : Nat} (hS : (jS h a).1 = ci) (hci : ci < 10) (hn : As.length = n) (hst0 : st0 = As.reverse ++ .inr a :: rest) (hr : rest.length ≤ 8) (hdd : d' + 1 ≤ d)
    (E : Ex N d' (.inr a :: As) h mc' ms' (fun v h' => V M d (pc + 3) L (v.toList ++ rest) h' mc ms Q)) : V M d pc L st0 h (mc' + mc) (ms' + ms) Q := by
  intro p l e R s m args below meth c G MC MS Z H locs cells slots ls cx hok hls hst hc hs hz
  obtain ⟨hx, hb, hml, hown, hts, hnm, hfr, hlo, hMC, hMS, hZ⟩ := id cx
  subst hst0
  rw [jmap_app]
  obtain ⟨h2, hnn⟩ := jw_range hok.1 (a := a) (by rw [hS]; omega) (by rw [hS]; omega)
  have ha : jV G (.inr a) = .ref (jgz G + (a - 2)) := by show va_rf (jrf G a) = _; rw [jrf_at G h2]; rfl
  rw [ha]
  have hst3 : ∀ x ∈ ((.inr a : jA) :: As), jRA x := fun x hx9 => (List.mem_cons.mp hx9).elim (fun q => by rw [q]; exact trivial) (fun q => hst x (by simp [q]))
  have hpc : ∀ U : State, U.heap = H → s.WarmedH U.vm → jPc G (.inr a :: As) h (Value.ref (jgz G + (a - 2)) :: As.map (jV G)).toArray U := fun U hU hW => ⟨by rw [List.map_cons, ha], hst3, jstart hok hU hW⟩
  have hMet := E l G
  have hCB : va_CN R s args (jmO M) ix (jmY N) host (jmC N) (jmL N) (jmR N) (jws N) (jroom d' mc' ms') mc' ms' n := va_cnB n hts (jws_good hN) rfl rfl rfl (hok.2.1.2.1 _ hl rfl) (hts _ hN.2.1) hN.2.2.1 ⟨by show d' + 1 + 1 ≤ _; omega, by show 8 + (jmL N + 11) + 64 * (d' + 1) ≤ _; have := hN.2.2.2.1; omega⟩
  have h8 := hlo
  have hst2 : ∀ x ∈ rest, jRA x := fun x hx9 => hst x (by simp [hx9])
  refine jcall (g := fun _ _ _ => F0 m pc ls []) (va_runIN (As := As.map (jV G)) (rest := rest.map (jV G)) ⟨hx, hb, hml, hown, hts⟩ hMet ⟨by rw [hret] at hCB; exact hCB, hv.1, hts _ hv.2⟩ ⟨jPc_blind, hpc⟩ rfl (by rw [List.length_map]; exact hn) hls.1 rfl (jcat_le hr) hd ⟨by omega, by omega⟩) hok hz (fun v h' H' locs' hQ hra hok' hz' => ?_)
  have k1 := hQ p l e R s m args below meth c G MC MS Z H' locs' (cells + mc') (slots + ms') ls cx hok' hls (fun x hx9 => (List.mem_append.mp hx9).elim (fun q => hra x (by cases v with
    | none => cases q
    | some y => rw [List.mem_singleton.mp q])) (hst2 x)) (by omega) (by omega) hz'
  rw [List.map_append] at k1
  exact k1
theorem V_objI {ix a : Nat} (hd : decode (jmC M) pc = .ok (.invokespecial ix, 3)) (hl : Cond.methodLink (jmO M) ix Lib.objectInit ∈ jTs) (hin : Cond.instanceMethod Lib.objectInit ∈ jTs) (hcode : Cond.code Lib.objectInit ⟨#[0xb1]⟩ 1 none ∈ jTs) (ha : 2 ≤ a) (hr : st.length ≤ 8)
    (k : V M d (pc + 3) L st h mc ms Q) : V M d pc L (.inr a :: st) h mc ms Q := by
  intro p l e R s m args below meth c G MC MS Z H locs cells slots ls cx hok hls hst hc hs hz
  obtain ⟨hx, hb, hml, hown, hts, hnm, hfr, hlo, hMC, hMS, hZ⟩ := id cx
  have k1 := k p l e R s m args below meth c G MC MS Z H locs cells slots ls cx hok hls (jst_tl hst) hc hs hz
  rw [List.map_cons, show jV G (.inr a) = .ref (jgz G + (a - 2)) by show va_rf (jrf G a) = _; rw [jrf_at G ha]; rfl]
  exact W.objInit hx hb hown (hts _ hl) (hts _ hin) (hts _ hcode) rfl (hls.1.trans hml.symm) rfl hd (by omega) (by rw [jcat]; show 2 * 0 + _ + 12 ≤ _; omega) k1
theorem lg_sl_map (G : jG) : ∀ as : List jA, lg_sl (as.map (jV G)) = as.map (fun v => Slot.val (jV G v))
  | [] => rfl
  | v :: as => by
    rw [List.map_cons, List.map_cons, ← lg_sl_map G as]
    unfold lg_sl
    rw [List.flatMap_cons, if_neg (by rw [jV_cat]; decide)]
    rfl
/-- A CONTRACT OUT OF A WALK -/
theorem Ex_of_V {N : jM} {d' mc' ms' n : Nat} {as : List jA} {Q' : Option jA → jH → Prop} (hp : jMt N n) (hn : as.length ≤ jmL N) (hV : V N d' 0 (as.map some ++ List.replicate (jmL N - as.length) none) [] h mc' ms' Q') : Ex N d' as h mc' ms' Q' := by
  intro l G
  refine Met.ofW (cc := jmC N) (maxL := jmL N) (ret := jmR N) hp.2.2.2.2 rfl ?_
  intro p e s m margs below meth c s₁ B hml hv
  obtain ⟨rfl, hra, hok⟩ := hv
  have hx := B.exec
  have hb := B.bytes
  have hr := B.returns
  have hts0 := atoms_spec (ws := jws N) B.pre
  have hts : ∀ w ∈ jTs, w.before ((as.map (jV G)).toArray) s = true := fun w hw => hts0 w (List.mem_cons_of_mem _ hw)
  have hown : s.vm.findClass (jmO N) = some m.cls := findClass_of_methodNamed B.named
  have hnm : (jmY N).name = "<init>" → meth.name = "<init>" := fun q => (name_of_methodNamed B.named B.method).1.trans q
  have hlocks : meth.locks = false := B.notSynchronized
  have hl0 := lv_entry (as.map (jV G)) (n := jmL N) (by rw [lg_sl_map, List.length_map]; exact hn)
  rw [lg_entry_eq]
  have hls : jLs G ((lg_sl (as.map (jV G)) ++ List.replicate (jmL N - (lg_sl (as.map (jV G))).length) Slot.unset).toArray) (jmL N) (as.map some ++ List.replicate (jmL N - as.length) none) := by
    refine ⟨hl0.1, hl0.2.1, by simp; omega, fun i v hi => ?_⟩
    by_cases hlt : i < as.length
    · rw [List.getElem?_append_left (by simp; exact hlt), List.getElem?_map, List.getElem?_eq_getElem hlt] at hi
      have hv : as[i] = v := by simpa using hi
      refine ⟨?_, hra v (by rw [← hv]; exact List.getElem_mem hlt)⟩
      rw [lg_sl_map, List.getElem?_toArray, List.getElem?_append_left (by simp; exact hlt), List.getElem?_map, List.getElem?_eq_getElem hlt, hv]
      rfl
    · rw [List.getElem?_append_right (by simp; omega)] at hi
      have h9 := List.getElem?_eq_some_iff.mp hi
      obtain ⟨h10, h11⟩ := h9
      rw [List.getElem_replicate] at h11
      cases h11
  refine hV p l e (jroom d' mc' ms') s m _ below meth c G mc' ms' _ s.heap [] 0 0 _ ⟨hx, hb, hml, hown, hts, hnm, Nat.le_refl _, Nat.le_refl _, Nat.le_refl _, Nat.le_refl _, ?_⟩ hok hls (fun v hv => by cases hv) (Nat.zero_add _) (Nat.zero_add _) rfl
  intro v h' H' locs' pc' ls' hQ hok' hret hz' hdg
  have hend : ∀ t : State, t.heap = H' → s.WarmedH t.vm → jQc G mc' Q' (as.map (jV G)).toArray s (.returned (v.map (jV G))) t := by
    intro t ht hW
    obtain ⟨hw1, hst1, hP1, hS1, hsz1, hbz1, hz01, hX1⟩ := hok'
    exact ⟨v, h', rfl, hQ, jRet_ra hret, ⟨hw1, hst1.warm hW, by rw [ht]; exact hP1, by rw [ht]; exact ⟨hS1.1, hS1.2.1, fun _ q => by cases q⟩, by rw [ht]; exact hsz1, hbz1, hz01, by rw [ht]; exact hX1.moved hW.alike⟩, by rw [ht]; exact hz'⟩
  have hfree : ∀ q ∈ locs', jAt G q.base := hok'.2.2.2.1.2.2
  generalize hjr : jmR N = jr at hret hdg hr
  rcases jr with _ | ty
  · cases v with
    | none => exact W.vret hx hb hr hend hfree hdg
    | some x => exact absurd hret (by cases x <;> exact id)
  · cases v with
    | none => exact absurd hret (by cases ty <;> exact id)
    | some x =>
      cases x with
      | inr q => exact absurd hret (by cases ty <;> exact id)
      | inl z =>
        by_cases hti : ty = .int
        · subst hti
          exact W.iret hx hb hr hend hfree hdg
        · by_cases htb : ty = .boolean
          · subst htb
            refine W.zret hx hb hr ?_ hend hfree hdg
            rcases hret with rfl | rfl <;> decide
          · exact absurd hret (by cases ty <;> first | exact absurd rfl hti | exact absurd rfl htb | exact id)
end JL
