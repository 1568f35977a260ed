/-! ===== fields, arrays, new, calls, returns, over V ===== -/
section JH
variable {M : jM} {d pc mc ms : Nat} {L : List (Option jA)} {st : List jA} {h : jH} {Q : Option jA → jH → Prop}
def jFL (own : String) (ix c k : Nat) : Prop := c < 10 ∧ k < jF_ c ∧ (Cond.fieldLink own ix (jT_ c k).1 (jT_ c k).2.1 (jT_ c k).2.2.1 ∈ jTs ∨ ∃ host, Cond.fieldLinkNest own ix (jT_ c k).1 (jT_ c k).2.1 (jT_ c k).2.2.1 host ∈ lw_tbl)
theorem jD_any {G : jG} {h : jH} : va_D (jAt G) (jW G h) := jD G h
/-- the field of an object, at W -/
theorem jget_w {p : Program} {l : Launch} {e : Env} {R : Room} {s : State} {m : MethodId} {args : Array Value} {below : List Frame} {meth : Method} {c : Code} {H : Heap} {locs : List Loc} {cells slots : Nat} {Z : State → Prop} {G : jG} {cc : ByteArray} {own : String} {ls : Array Slot} {rest : List Value} {ix a ci k : Nat}
    (hx : p.tables.exec = Jvm.exec) (hb : c.code = cc) (hown : s.vm.findClass own = some m.cls) (hts : ∀ w ∈ jTs, w.before args s = true) {H0 : Heap} (hok : jOk G h H0 H locs s) (hf : jFL own ix ci k) (hS : (jS h a).1 = ci) (hd : decode cc pc = .ok (.getfield ix, 3))
    (kk : W p l e R s m args below meth c H locs cells slots Z (F0 m (pc + 3) ls (jfv G h a ci k :: rest))) : W p l e R s m args below meth c H locs cells slots Z (F0 m pc ls (va_rf (jrf G a) :: rest)) := by
  obtain ⟨hw, hst, hP, hSS, hsz, hbz, hz0, hX⟩ := hok
  obtain ⟨hc9, hkN, hlk⟩ := hf
  obtain ⟨h2, hn⟩ := jw_range hw (a := a) (by rw [hS]; omega) (by rw [hS]; omega)
  have he := jW_get G h h2 hn
  rw [jE_obj hS hc9] at he
  rw [jrf_at G h2]
  rcases hlk with hlk | ⟨host, hlk⟩
  · exact va_get (D := jgD G) (ci := ci) (C := jR_ ci) (T := jT_ ci) (N := jF_ ci) hx hb hts (jin ci hc9) hown hst.1 hP (a - 2) he (jcl_get ci hc9) k hkN (hts _ hlk) (fun _ h9 => h9) (jfs_get hkN) hd kk
  · exact va_getN (D := jgD G) (ci := ci) (C := jR_ ci) (T := jT_ ci) (N := jF_ ci) hx hb hts (jin ci hc9) hown hst.1 hP (a - 2) he (jcl_get ci hc9) k hkN (va_Nw.use rfl (hst.2.1 _ hlk rfl)) (fun _ h9 => h9) (jfs_get hkN) hd kk
theorem jS_rf {G : jG} {H0 H : Heap} {locs : List Loc} (h : va_S (jAt G) H0 H locs) : va_S (jAt G) H H locs := ⟨Nat.le_refl _, fun _ _ _ => rfl, h.2.2⟩
/-- behind a write: the picture is the new one -/
theorem jfin {p : Program} {l : Launch} {e : Env} {R : Room} {s : State} {m : MethodId} {args : Array Value} {below : List Frame} {meth : Method} {c : Code} {H : Heap} {locs : List Loc} {cells slots : Nat} {Z : State → Prop} {G : jG} {h h' : jH} {H1 : Heap} {locs1 : List Loc} {g : JFrame} (hok : jOk G h s.heap H locs s) (hz : H.size = s.heap.size + cells) (hN : jN h' = jN h) (hS1 : jS h' 1 = jS h 1) (hX1 : jX h' 1 = jX h 1) (hw' : jWf h')
    (hP1 : va_P (jgD G) jcl (jW G h') H1) (hSS : va_S (jAt G) H H1 locs1) (kk : jOk G h' s.heap H1 locs1 s → H1.size = s.heap.size + cells → W p l e R s m args below meth c H1 locs1 cells slots Z g) : W p l e R s m args below meth c H1 locs1 cells slots Z g := by
  intro T hT X
  have hup := X.heapSize
  rw [hT] at hup
  obtain ⟨hw, hst, hP, hS0, hsz, hbz, hz0, hX⟩ := hok
  have hsame : H1.size = H.size := by have := hSS.1; omega
  refine kk ⟨hw', hst, hP1, ⟨by omega, fun q hq hA => (hSS.2.1 q (by omega) hA).trans (hS0.2.1 q hq hA), hSS.2.2⟩, by omega, hbz, hz0, ?_⟩ (by omega) T hT X
  rw [hS1, hX1]
  exact hX.kept (hSS.2.1 _ (by omega) (by show ¬ jgz G ≤ jgb G; omega))
/-- a field is written, at W -/
theorem jput_w {p : Program} {l : Launch} {e : Env} {R : Room} {s : State} {m : MethodId} {args : Array Value} {below : List Frame} {meth : Method} {c : Code} {H : Heap} {locs : List Loc} {cells slots : Nat} {Z : State → Prop} {G : jG} {cc : ByteArray} {own : String} {ls : Array Slot} {rest : List Value} {ix a ci k : Nat} {h h' : jH} {v : Value} (hx : p.tables.exec = Jvm.exec) (hb : c.code = cc) (hown : s.vm.findClass own = some m.cls) (hts : ∀ w ∈ jTs, w.before args s = true) (hok : jOk G h s.heap H locs s) (hz : H.size = s.heap.size + cells)
    (hf : jFL own ix ci k) (hfin : (jT_ ci k).2.2.2 = false) (hS : (jS h a).1 = ci) (hn : narrow (jt_ ci k) v = v) (hfit : fits (jt_ ci k) v = true) (hd : decode cc pc = .ok (.putfield ix, 3))
    (hN : jN h' = jN h) (hS1 : jS h' 1 = jS h 1) (hX1 : jX h' 1 = jX h 1) (hw' : jWf h') (he' : jE G h' a = .inr (ci, (jfs G h a ci).set k v)) (ho : ∀ b, b ≠ a → jE G h' b = jE G h b)
    (kk : ∀ (H1 : Heap) (locs1 : List Loc), jOk G h' s.heap H1 locs1 s → H1.size = s.heap.size + cells → W p l e R s m args below meth c H1 locs1 cells slots Z (F0 m (pc + 3) ls rest)) : W p l e R s m args below meth c H locs cells slots Z (F0 m pc ls (v :: va_rf (jrf G a) :: rest)) := by
  obtain ⟨hw, hst, hP, hSS, hsz, hbz, hz0, hX⟩ := id hok
  obtain ⟨hc9, hkN, hlk⟩ := hf
  obtain ⟨h2, hna⟩ := jw_range hw (a := a) (by rw [hS]; omega) (by rw [hS]; omega)
  have he := jW_get G h h2 hna
  rw [jE_obj hS hc9] at he
  rw [jrf_at G h2]
  have hW := jW_ext hN h2 hna he' ho
  rcases hlk with hlk | ⟨host, hlk⟩
  · exact va_put (D := jgD G) (ci := ci) (C := jR_ ci) (T := jT_ ci) (N := jF_ ci) hx hb hts (jin ci hc9) (jt_ ci) (jt_ok ci hc9) (jn_ok ci hc9) hown hst.1 hP (jD G h) (jS_rf hSS) (a - 2) he (jcl_get ci hc9) k hkN (hts _ hlk) (fun _ h9 => h9) hfin (jt_ok ci hc9 k hkN) hn hfit (by rw [jfs_len]; exact hkN) hd
      (fun H1 locs1 hP1 _ hS2 => jfin hok hz hN hS1 hX1 hw' (by rw [hW]; exact hP1) hS2 (kk H1 locs1))
  · exact va_putN (D := jgD G) (ci := ci) (C := jR_ ci) (T := jT_ ci) (N := jF_ ci) hx hb hts (jin ci hc9) (jt_ ci) (jt_ok ci hc9) (jn_ok ci hc9) hown hst.1 hP (jD G h) (jS_rf hSS) (a - 2) he (jcl_get ci hc9) k hkN (va_Nw.use rfl (hst.2.1 _ hlk rfl)) (fun _ h9 => h9) hfin (jt_ok ci hc9 k hkN) hn hfit (by rw [jfs_len]; exact hkN) hd
      (fun H1 locs1 hP1 _ hS2 => jfin hok hz hN hS1 hX1 hw' (by rw [hW]; exact hP1) hS2 (kk H1 locs1))
/-- a final field is written in its class's constructor -/
theorem jputF_w {p : Program} {l : Launch} {e : Env} {R : Room} {s : State} {m : MethodId} {args : Array Value} {below : List Frame} {meth : Method} {c : Code} {H : Heap} {locs : List Loc} {cells slots : Nat} {Z : State → Prop} {G : jG} {cc : ByteArray} {own : String} {ls : Array Slot} {rest : List Value} {ix a ci k : Nat} {h h' : jH} {v : Value} (hx : p.tables.exec = Jvm.exec) (hb : c.code = cc) (hown : s.vm.findClass own = some m.cls) (hts : ∀ w ∈ jTs, w.before args s = true) (hok : jOk G h s.heap H locs s) (hz : H.size = s.heap.size + cells)
    (hf : ci < 10 ∧ k < jF_ ci ∧ Cond.fieldLink own ix (jT_ ci k).1 (jT_ ci k).2.1 (jT_ ci k).2.2.1 ∈ jTs) (hfin : (jT_ ci k).2.2.2 = true) (hinit : meth.name = "<init>") (hdecl : (jT_ ci k).1 = own) (hS : (jS h a).1 = ci) (hn : narrow (jt_ ci k) v = v) (hfit : fits (jt_ ci k) v = true) (hd : decode cc pc = .ok (.putfield ix, 3))
    (hN : jN h' = jN h) (hS1 : jS h' 1 = jS h 1) (hX1 : jX h' 1 = jX h 1) (hw' : jWf h') (he' : jE G h' a = .inr (ci, (jfs G h a ci).set k v)) (ho : ∀ b, b ≠ a → jE G h' b = jE G h b)
    (kk : ∀ (H1 : Heap) (locs1 : List Loc), jOk G h' s.heap H1 locs1 s → H1.size = s.heap.size + cells → W p l e R s m args below meth c H1 locs1 cells slots Z (F0 m (pc + 3) ls rest)) : W p l e R s m args below meth c H locs cells slots Z (F0 m pc ls (v :: va_rf (jrf G a) :: rest)) := by
  obtain ⟨hw, hst, hP, hSS, hsz, hbz, hz0, hX⟩ := id hok
  obtain ⟨hc9, hkN, hlk⟩ := hf
  obtain ⟨h2, hna⟩ := jw_range hw (a := a) (by rw [hS]; omega) (by rw [hS]; omega)
  have he := jW_get G h h2 hna
  rw [jE_obj hS hc9] at he
  rw [jrf_at G h2]
  have hW := jW_ext hN h2 hna he' ho
  exact va_putF (D := jgD G) (ci := ci) (C := jR_ ci) (T := jT_ ci) (N := jF_ ci) hx hb hts (jin ci hc9) (jt_ ci) (jt_ok ci hc9) (jn_ok ci hc9) hown hst.1 hP (jD G h) (jS_rf hSS) (a - 2) he (jcl_get ci hc9) k hkN (hts _ hlk) (fun _ h9 => h9) hfin hinit hdecl (jt_ok ci hc9 k hkN) hn hfit (by rw [jfs_len]; exact hkN) hd
      (fun H1 locs1 hP1 _ hS2 => jfin hok hz hN hS1 hX1 hw' (by rw [hW]; exact hP1) hS2 (kk H1 locs1))
theorem jfs_ext {G : jG} {h h' : jH} {a ci k : Nat} {v : Value} (hk : k < jF_ ci) (hv : jfv G h' a ci k = v) (ho : ∀ j, j ≠ k → jfv G h' a ci j = jfv G h a ci j) : jfs G h' a ci = (jfs G h a ci).set k v := by
  apply List.ext_getElem?
  intro j
  by_cases hj : j < jF_ ci
  · rw [jfs_get hj]
    by_cases e : j = k
    · subst e
      rw [List.getElem?_set_self (by rw [jfs_len]; exact hj), hv]
    · rw [List.getElem?_set_ne (Ne.symm e), jfs_get hj, ho j e]
  · rw [List.getElem?_eq_none (by rw [jfs_len]; omega), List.getElem?_eq_none (by rw [List.length_set, jfs_len]; omega)]
theorem jfs_eq {G : jG} {h h' : jH} {a ci : Nat} (ho : ∀ j, jfv G h' a ci j = jfv G h a ci j) : jfs G h' a ci = jfs G h a ci := by
  unfold jfs
  exact List.map_congr_left (fun j _ => ho j)
theorem jE_eq {G : jG} {h h' : jH} {b : Nat} (hS : jS h' b = jS h b) (hI : jI h' b = jI h b) (hP : jP h' b = jP h b) (hX : jX h' b = jX h b) (hY : jY h' b = jY h b) : jE G h' b = jE G h b := by
  unfold jE
  rw [hS, jfs_eq (h := h) (fun j => by unfold jfv; rw [hI, hP])]
  unfold jar
  rw [hX, hY]
theorem ju_ne {α : Type} {f : Nat → Nat → α} {a k b : Nat} {v : α} (hb : b ≠ a) : ju f a k v b = f b := by funext j; unfold ju; rw [if_neg (fun q => hb q.1)]
theorem ju_k {α : Type} {f : Nat → Nat → α} {a k j : Nat} {v : α} (hj : j ≠ k) : ju f a k v a j = f a j := by unfold ju; rw [if_neg (fun q => hj q.2)]
theorem ju_at {α : Type} {f : Nat → Nat → α} {a k : Nat} {v : α} : ju f a k v a k = v := by unfold ju; rw [if_pos ⟨rfl, rfl⟩]
theorem jWf_I {h : jH} (hw : jWf h) {a k : Nat} {v : Int} (hv : jR v) : jWf (jsI h a k v) := ⟨hw.1, fun a' k' => by show jR (ju (jI h) a k v a' k'); unfold ju; split; exact hv; exact hw.2.1 _ _, hw.2.2⟩
theorem jWf_X {h : jH} (hw : jWf h) {a k : Nat} {v : Int} (hv : jR v) : jWf (jsX h a k v) := ⟨hw.1, hw.2.1, fun a' k' => by show jR (ju (jX h) a k v a' k'); unfold ju; split; exact hv; exact hw.2.2.1 _ _, hw.2.2.2⟩
theorem jWf_P {h : jH} (hw : jWf h) {a k v : Nat} : jWf (jsP h a k v) := hw
theorem jWf_Y {h : jH} (hw : jWf h) {a k v : Nat} : jWf (jsY h a k v) := hw
theorem jE_sI {G : jG} {h : jH} {a ci k : Nat} {z : Int} (hS : (jS h a).1 = ci) (hc : ci < 10) (hk : k < jF_ ci) (ht : jrt (jt_ ci k) = false) : jE G (jsI h a k z) a = .inr (ci, (jfs G h a ci).set k (.int (Int32.ofInt z))) := by
  rw [jE_obj (show (jS (jsI h a k z) a).1 = ci from hS) hc, jfs_ext hk (v := .int (Int32.ofInt z)) ?_ ?_]
  · unfold jfv
    rw [ht]
    show Value.int (Int32.ofInt (ju (jI h) a k z a k)) = _
    rw [ju_at]
  · intro j hj
    unfold jfv
    show (if _ then va_rf (jrf G (jP h a j)) else Value.int (Int32.ofInt (ju (jI h) a k z a j))) = _
    rw [ju_k hj]
theorem jE_sP {G : jG} {h : jH} {a ci k v : Nat} (hS : (jS h a).1 = ci) (hc : ci < 10) (hk : k < jF_ ci) (ht : jrt (jt_ ci k) = true) : jE G (jsP h a k v) a = .inr (ci, (jfs G h a ci).set k (va_rf (jrf G v))) := by
  rw [jE_obj (show (jS (jsP h a k v) a).1 = ci from hS) hc, jfs_ext hk (v := va_rf (jrf G v)) ?_ ?_]
  · unfold jfv
    rw [ht]
    show va_rf (jrf G (ju (jP h) a k v a k)) = _
    rw [ju_at]
  · intro j hj
    unfold jfv
    show (if _ then va_rf (jrf G (ju (jP h) a k v a j)) else _) = _
    rw [ju_k hj]
    rfl
theorem jE_oI {G : jG} {h : jH} {a k : Nat} {z : Int} : ∀ b, b ≠ a → jE G (jsI h a k z) b = jE G h b := fun b hb => jE_eq rfl (ju_ne hb) rfl rfl rfl
theorem jE_oP {G : jG} {h : jH} {a k v : Nat} : ∀ b, b ≠ a → jE G (jsP h a k v) b = jE G h b := fun b hb => jE_eq rfl rfl (ju_ne hb) rfl rfl
theorem jE_oX {G : jG} {h : jH} {a k : Nat} {z : Int} : ∀ b, b ≠ a → jE G (jsX h a k z) b = jE G h b := fun b hb => jE_eq rfl rfl rfl (ju_ne hb) rfl
theorem jE_oY {G : jG} {h : jH} {a k v : Nat} : ∀ b, b ≠ a → jE G (jsY h a k v) b = jE G h b := fun b hb => jE_eq rfl rfl rfl rfl (ju_ne hb)
theorem jfits_ref {t : FieldType} (h : (∃ C, t = .object C) ∨ ∃ u, t = .array u) (G : jG) (v : Nat) : narrow t (va_rf (jrf G v)) = va_rf (jrf G v) ∧ fits t (va_rf (jrf G v)) = true := by
  rcases h with ⟨C, rfl⟩ | ⟨u, rfl⟩ <;> cases jrf G v <;> exact ⟨rfl, rfl⟩
theorem jty_ref : ∀ c, c < 10 → ∀ k, k < jF_ c → jrt (jt_ c k) = true → (∃ C, jt_ c k = .object C) ∨ ∃ u, jt_ c k = .array u := by
  intro c hc k hk
  generalize ht : jt_ c k = t
  intro hr
  have key : jt_ c k = .int ∨ jt_ c k = .boolean ∨ (∃ C, jt_ c k = .object C) ∨ ∃ u, jt_ c k = .array u := by
    rcases (show c = 0 ∨ c = 1 ∨ c = 2 ∨ c = 3 ∨ c = 4 ∨ c = 5 ∨ c = 6 ∨ c = 7 ∨ c = 8 ∨ c = 9 by omega) with rfl | rfl | rfl | rfl | rfl | rfl | rfl | rfl | rfl | rfl
    all_goals
      simp only [jt_]
      first | unfold tyX0 | unfold tyX1 | unfold tyX2 | unfold tyX3 | unfold tyX4 | unfold tyX5 | unfold tyX6 | unfold tyX7 | unfold tyX8 | unfold tyX9
      split <;> first | exact Or.inl rfl | exact Or.inr (Or.inl rfl) | exact Or.inr (Or.inr (Or.inl ⟨_, rfl⟩)) | exact Or.inr (Or.inr (Or.inr ⟨_, rfl⟩))
  rw [ht] at key
  rcases key with rfl | rfl | h | h
  · cases hr
  · cases hr
  · exact Or.inl h
  · exact Or.inr h
theorem V_getI {ix a ci kf : Nat} (hd : decode (jmC M) pc = .ok (.getfield ix, 3)) (hf : jFL (jmO M) ix ci kf) (ht : jrt (jt_ ci kf) = false) (hS : (jS h a).1 = ci)
    (k : V M d (pc + 3) L (.inl (jI h a kf) :: st) h mc ms Q) : V M d pc L (.inr a :: st) h mc ms Q := by
  intro p l e R s m args below meth c G MC MS Z H locs cells slots ls cx hok hls hst hc hs hz
  obtain ⟨hx, hb, hml, hown, hts, hnm, hfr, hlo, hMC, hMS, hZ⟩ := id cx
  have k1 := k p l e R s m args below meth c G MC MS Z H locs cells slots ls cx hok hls (jst_cons (v := .inl (jI h a kf)) (hok.1.2.1 _ _) (jst_tl hst)) hc hs hz
  rw [List.map_cons, show jV G (.inl (jI h a kf)) = jfv G h a ci kf by unfold jfv; rw [ht]; rfl] at k1
  exact jget_w hx hb hown hts hok hf hS hd k1
theorem V_getP {ix a ci kf : Nat} (hd : decode (jmC M) pc = .ok (.getfield ix, 3)) (hf : jFL (jmO M) ix ci kf) (ht : jrt (jt_ ci kf) = true) (hS : (jS h a).1 = ci)
    (k : V M d (pc + 3) L (.inr (jP h a kf) :: st) h mc ms Q) : V M d pc L (.inr a :: st) h mc ms Q := by
  intro p l e R s m args below meth c G MC MS Z H locs cells slots ls cx hok hls hst hc hs hz
  obtain ⟨hx, hb, hml, hown, hts, hnm, hfr, hlo, hMC, hMS, hZ⟩ := id cx
  have k1 := k p l e R s m args below meth c G MC MS Z H locs cells slots ls cx hok hls (jst_cons (v := .inr (jP h a kf)) trivial (jst_tl hst)) hc hs hz
  rw [List.map_cons, show jV G (.inr (jP h a kf)) = jfv G h a ci kf by unfold jfv; rw [ht]; rfl] at k1
  exact jget_w hx hb hown hts hok hf hS hd k1
theorem V_putI {ix a ci kf : Nat} {z : Int} (hd : decode (jmC M) pc = .ok (.putfield ix, 3)) (hf : jFL (jmO M) ix ci kf) (ht : jt_ ci kf = .int) (hfin : (jT_ ci kf).2.2.2 = false) (hS : (jS h a).1 = ci)
    (k : V M d (pc + 3) L st (jsI h a kf z) mc ms Q) : V M d pc L (.inl z :: .inr a :: st) h mc ms Q := by
  intro p l e R s m args below meth c G MC MS Z H locs cells slots ls cx hok hls hst hc hs hz
  obtain ⟨hx, hb, hml, hown, hts, hnm, hfr, hlo, hMC, hMS, hZ⟩ := id cx
  have hr : jR z := jst_hd hst
  exact jput_w hx hb hown hts hok hz hf hfin hS (v := .int (Int32.ofInt z)) (by rw [ht]; rfl) (by rw [ht]; rfl) hd (h' := jsI h a kf z) rfl rfl rfl (jWf_I hok.1 hr) (jE_sI hS hf.1 hf.2.1 (by rw [ht]; rfl)) jE_oI
    (fun H1 locs1 hok1 hz1 => k p l e R s m args below meth c G MC MS Z H1 locs1 cells slots ls cx hok1 hls (jst_tl (jst_tl hst)) hc hs hz1)
theorem V_putZ {ix a ci kf : Nat} {z : Int} (hd : decode (jmC M) pc = .ok (.putfield ix, 3)) (hf : jFL (jmO M) ix ci kf) (ht : jt_ ci kf = .boolean) (hfin : (jT_ ci kf).2.2.2 = false) (hS : (jS h a).1 = ci) (hzz : z = 0 ∨ z = 1)
    (k : V M d (pc + 3) L st (jsI h a kf z) mc ms Q) : V M d pc L (.inl z :: .inr a :: st) h mc ms Q := by
  intro p l e R s m args below meth c G MC MS Z H locs cells slots ls cx hok hls hst hc hs hz
  obtain ⟨hx, hb, hml, hown, hts, hnm, hfr, hlo, hMC, hMS, hZ⟩ := id cx
  have hr : jR z := jst_hd hst
  exact jput_w hx hb hown hts hok hz hf hfin hS (v := .int (Int32.ofInt z)) (by rw [ht]; rcases hzz with rfl | rfl <;> rfl) (by rw [ht]; rcases hzz with rfl | rfl <;> rfl) hd (h' := jsI h a kf z) rfl rfl rfl (jWf_I hok.1 hr) (jE_sI hS hf.1 hf.2.1 (by rw [ht]; rfl)) jE_oI
    (fun H1 locs1 hok1 hz1 => k p l e R s m args below meth c G MC MS Z H1 locs1 cells slots ls cx hok1 hls (jst_tl (jst_tl hst)) hc hs hz1)
theorem V_putP {ix a ci kf v : Nat} (hd : decode (jmC M) pc = .ok (.putfield ix, 3)) (hf : jFL (jmO M) ix ci kf) (ht : jrt (jt_ ci kf) = true) (hfin : (jT_ ci kf).2.2.2 = false) (hS : (jS h a).1 = ci)
    (k : V M d (pc + 3) L st (jsP h a kf v) mc ms Q) : V M d pc L (.inr v :: .inr a :: st) h mc ms Q := by
  intro p l e R s m args below meth c G MC MS Z H locs cells slots ls cx hok hls hst hc hs hz
  obtain ⟨hx, hb, hml, hown, hts, hnm, hfr, hlo, hMC, hMS, hZ⟩ := id cx
  have hq := jfits_ref (jty_ref ci hf.1 kf hf.2.1 ht) G v
  exact jput_w hx hb hown hts hok hz hf hfin hS (v := va_rf (jrf G v)) hq.1 hq.2 hd (h' := jsP h a kf v) rfl rfl rfl (jWf_P hok.1) (jE_sP hS hf.1 hf.2.1 ht) jE_oP
    (fun H1 locs1 hok1 hz1 => k p l e R s m args below meth c G MC MS Z H1 locs1 cells slots ls cx hok1 hls (jst_tl (jst_tl hst)) hc hs hz1)
theorem V_putF {ix a ci kf v : Nat} (hd : decode (jmC M) pc = .ok (.putfield ix, 3)) (hf : ci < 10 ∧ kf < jF_ ci ∧ Cond.fieldLink (jmO M) ix (jT_ ci kf).1 (jT_ ci kf).2.1 (jT_ ci kf).2.2.1 ∈ jTs) (ht : jrt (jt_ ci kf) = true) (hfin : (jT_ ci kf).2.2.2 = true) (hinit : (jmY M).name = "<init>") (hdecl : (jT_ ci kf).1 = jmO M) (hS : (jS h a).1 = ci)
    (k : V M d (pc + 3) L st (jsP h a kf v) mc ms Q) : V M d pc L (.inr v :: .inr a :: st) h mc ms Q := by
  intro p l e R s m args below meth c G MC MS Z H locs cells slots ls cx hok hls hst hc hs hz
  obtain ⟨hx, hb, hml, hown, hts, hnm, hfr, hlo, hMC, hMS, hZ⟩ := id cx
  have hq := jfits_ref (jty_ref ci hf.1 kf hf.2.1 ht) G v
  exact jputF_w hx hb hown hts hok hz hf hfin (hnm hinit) hdecl hS (v := va_rf (jrf G v)) hq.1 hq.2 hd (h' := jsP h a kf v) rfl rfl rfl (jWf_P hok.1) (jE_sP hS hf.1 hf.2.1 ht) jE_oP
    (fun H1 locs1 hok1 hz1 => k p l e R s m args below meth c G MC MS Z H1 locs1 cells slots ls cx hok1 hls (jst_tl (jst_tl hst)) hc hs hz1)
end JH
