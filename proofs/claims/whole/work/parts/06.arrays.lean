/-! ===== arrays, new, calls, returns, over V ===== -/
section JK
variable {M : jM} {d pc mc ms : Nat} {L : List (Option jA)} {st : List jA} {h : jH} {Q : Option jA → jH → Prop}
theorem jarr {G : jG} {h : jH} (hw : jWf h) {a ty : Nat} (hS : (jS h a).1 = ty) (hty : 16 ≤ ty) (hty2 : ty < 99) : 2 ≤ a ∧ a < jN h ∧ (jW G h)[a - 2]? = some (jgz G + (a - 2), .inl (jgA G ty, jar G h a ty (jS h a).2)) := by
  obtain ⟨h2, hn⟩ := jw_range hw (a := a) (by rw [hS]; omega) (by rw [hS]; omega)
  have he := jW_get G h h2 hn
  rw [jE_arr hS hty] at he
  exact ⟨h2, hn, he⟩
theorem jar_i {G : jG} {h : jH} {a ty len : Nat} (h18 : ty < 18) : jar G h a ty len = (len, .inl (fun j => Int32.ofInt (jX h a j))) := by unfold jar; rw [if_pos h18]
theorem jar_r {G : jG} {h : jH} {a ty len : Nat} (h18 : ¬ ty < 18) : jar G h a ty len = (len, .inr (.inr (.inr (.inr (fun j => jrf G (jY h a j)))))) := by unfold jar; rw [if_neg h18]
theorem V_iald {a : Nat} {i : Int} (hd : decode (jmC M) pc = .ok (.iaload, 1)) (hS : (jS h a).1 = 16) (h0 : 0 ≤ i) (h1 : i < (jS h a).2)
    (k : V M d (pc + 1) L (.inl (jX h a i.toNat) :: st) h mc ms Q) : V M d pc L (.inl i :: .inr a :: st) h mc ms Q := by
  intro p l e R s m args below meth c G MC MS Z H locs cells slots ls cx hok hls hst hc hs hz
  obtain ⟨hx, hb, hml, hown, hts, hnm, hfr, hlo, hMC, hMS, hZ⟩ := id cx
  obtain ⟨h2, hn, he⟩ := jarr (G := G) hok.1 hS (by decide) (by decide)
  rw [jar_i (by decide)] at he
  have hi : jR i := jst_hd hst
  have k1 := k p l e R s m args below meth c G MC MS Z H locs cells slots ls cx hok hls (jst_cons (v := .inl (jX h a i.toNat)) (hok.1.2.2.1 _ _) (jst_tl (jst_tl hst))) hc hs hz
  rw [List.map_cons, List.map_cons, show jV G (.inr a) = .ref (jgz G + (a - 2)) by show va_rf (jrf G a) = _; rw [jrf_at G h2]; rfl]
  rw [List.map_cons, ← j_ix hi] at k1
  exact va_iald hx hb hok.2.1.1 hok.2.2.1 (a - 2) 0 he rfl (j_in hi h0 h1) hd k1
theorem V_zald {a : Nat} {i : Int} (hd : decode (jmC M) pc = .ok (.baload, 1)) (hS : (jS h a).1 = 17) (h0 : 0 ≤ i) (h1 : i < (jS h a).2)
    (k : V M d (pc + 1) L (.inl (jX h a i.toNat) :: st) h mc ms Q) : V M d pc L (.inl i :: .inr a :: st) h mc ms Q := by
  intro p l e R s m args below meth c G MC MS Z H locs cells slots ls cx hok hls hst hc hs hz
  obtain ⟨hx, hb, hml, hown, hts, hnm, hfr, hlo, hMC, hMS, hZ⟩ := id cx
  obtain ⟨h2, hn, he⟩ := jarr (G := G) hok.1 hS (by decide) (by decide)
  rw [jar_i (by decide)] at he
  have hi : jR i := jst_hd hst
  have k1 := k p l e R s m args below meth c G MC MS Z H locs cells slots ls cx hok hls (jst_cons (v := .inl (jX h a i.toNat)) (hok.1.2.2.1 _ _) (jst_tl (jst_tl hst))) hc hs hz
  rw [List.map_cons, List.map_cons, show jV G (.inr a) = .ref (jgz G + (a - 2)) by show va_rf (jrf G a) = _; rw [jrf_at G h2]; rfl]
  rw [List.map_cons, ← j_ix hi] at k1
  exact va_zald hx hb hok.2.1.1 hok.2.2.1 (a - 2) 1 he rfl (j_in hi h0 h1) hd k1
theorem V_iast {a : Nat} {i z : Int} (hd : decode (jmC M) pc = .ok (.iastore, 1)) (hS : (jS h a).1 = 16) (h0 : 0 ≤ i) (h1 : i < (jS h a).2)
    (k : V M d (pc + 1) L st (jsX h a i.toNat z) mc ms Q) : V M d pc L (.inl z :: .inl i :: .inr a :: st) h mc ms Q := by
  intro p l e R s m args below meth c G MC MS Z H locs cells slots ls cx hok hls hst hc hs hz
  obtain ⟨hx, hb, hml, hown, hts, hnm, hfr, hlo, hMC, hMS, hZ⟩ := id cx
  obtain ⟨h2, hn, he⟩ := jarr (G := G) hok.1 hS (by decide) (by decide)
  rw [jar_i (by decide)] at he
  have hr : jR z := jst_hd hst
  have hi : jR i := jst_hd (jst_tl hst)
  have ha1 : a ≠ 1 := by omega
  rw [List.map_cons, List.map_cons, List.map_cons, show jV G (.inr a) = .ref (jgz G + (a - 2)) by show va_rf (jrf G a) = _; rw [jrf_at G h2]; rfl]
  refine va_iast hx hb hok.2.1.1 hok.2.2.1 (jD G h) (jS_rf hok.2.2.2.1) (a - 2) 0 he rfl (j_in hi h0 h1) hd (fun H1 locs1 hP1 _ hS1 => ?_)
  have hE : jE G (jsX h a i.toNat z) a = .inl (jgA G 16, (jS h a).2, .inl (upd (fun j => Int32.ofInt (jX h a j)) (Int32.ofInt i).toNatClampNeg (Int32.ofInt z))) := by
    rw [jE_arr (show (jS (jsX h a i.toNat z) a).1 = 16 from hS) (by decide), jar_i (by decide), j_ix hi]
    refine congrArg (fun f => (Sum.inl (jgA G 16, (jS h a).2, .inl f) : va_E)) (funext fun j => ?_)
    show Int32.ofInt (ju (jX h) a i.toNat z a j) = _
    unfold ju upd
    by_cases e : j = i.toNat
    · rw [if_pos ⟨rfl, e⟩, if_pos e]
    · rw [if_neg (fun q => e q.2), if_neg e]
  have hW := jW_ext (h := h) (h' := jsX h a i.toNat z) rfl h2 hn hE jE_oX
  refine jfin (h' := jsX h a i.toNat z) hok hz rfl rfl (ju_ne (by omega)) (jWf_X hok.1 hr) ?_ hS1 (fun hok1 hz1 => k p l e R s m args below meth c G MC MS Z H1 locs1 cells slots ls cx hok1 hls (jst_tl (jst_tl (jst_tl hst))) hc hs hz1)
  · rw [hW]
    exact hP1
theorem V_zast {a : Nat} {i z : Int} (hd : decode (jmC M) pc = .ok (.bastore, 1)) (hS : (jS h a).1 = 17) (h0 : 0 ≤ i) (h1 : i < (jS h a).2) (hzz : z = 0 ∨ z = 1)
    (k : V M d (pc + 1) L st (jsX h a i.toNat z) mc ms Q) : V M d pc L (.inl z :: .inl i :: .inr a :: st) h mc ms Q := by
  intro p l e R s m args below meth c G MC MS Z H locs cells slots ls cx hok hls hst hc hs hz
  obtain ⟨hx, hb, hml, hown, hts, hnm, hfr, hlo, hMC, hMS, hZ⟩ := id cx
  obtain ⟨h2, hn, he⟩ := jarr (G := G) hok.1 hS (by decide) (by decide)
  rw [jar_i (by decide)] at he
  have hr : jR z := jst_hd hst
  have hi : jR i := jst_hd (jst_tl hst)
  have ha1 : a ≠ 1 := by omega
  rw [List.map_cons, List.map_cons, List.map_cons, show jV G (.inr a) = .ref (jgz G + (a - 2)) by show va_rf (jrf G a) = _; rw [jrf_at G h2]; rfl]
  refine va_zast hx hb hok.2.1.1 hok.2.2.1 (jD G h) (jS_rf hok.2.2.2.1) (a - 2) 1 he rfl (j_in hi h0 h1) hd (fun H1 locs1 hP1 _ hS1 => ?_)
  have hE : jE G (jsX h a i.toNat z) a = .inl (jgA G 17, (jS h a).2, .inl (upd (fun j => Int32.ofInt (jX h a j)) (Int32.ofInt i).toNatClampNeg (Int32.ofInt z))) := by
    rw [jE_arr (show (jS (jsX h a i.toNat z) a).1 = 17 from hS) (by decide), jar_i (by decide), j_ix hi]
    refine congrArg (fun f => (Sum.inl (jgA G 17, (jS h a).2, .inl f) : va_E)) (funext fun j => ?_)
    show Int32.ofInt (ju (jX h) a i.toNat z a j) = _
    unfold ju upd
    by_cases e : j = i.toNat
    · rw [if_pos ⟨rfl, e⟩, if_pos e]
    · rw [if_neg (fun q => e q.2), if_neg e]
  have hW := jW_ext (h := h) (h' := jsX h a i.toNat z) rfl h2 hn hE jE_oX
  refine jfin (h' := jsX h a i.toNat z) hok hz rfl rfl (ju_ne (by omega)) (jWf_X hok.1 hr) ?_ hS1 (fun hok1 hz1 => k p l e R s m args below meth c G MC MS Z H1 locs1 cells slots ls cx hok1 hls (jst_tl (jst_tl (jst_tl hst))) hc hs hz1)
  · rw [hW]
    have e2 : vp_nar .boolean (Int32.ofInt z) = Int32.ofInt z := by rcases hzz with rfl | rfl <;> decide
    rw [e2] at hP1
    exact hP1
theorem V_aald18 {a : Nat} {i : Int} (hd : decode (jmC M) pc = .ok (.aaload, 1)) (hS : (jS h a).1 = 18) (h0 : 0 ≤ i) (h1 : i < (jS h a).2)
    (k : V M d (pc + 1) L (.inr (jY h a i.toNat) :: st) h mc ms Q) : V M d pc L (.inl i :: .inr a :: st) h mc ms Q := by
  intro p l e R s m args below meth c G MC MS Z H locs cells slots ls cx hok hls hst hc hs hz
  obtain ⟨hx, hb, hml, hown, hts, hnm, hfr, hlo, hMC, hMS, hZ⟩ := id cx
  obtain ⟨h2, hn, he⟩ := jarr (G := G) hok.1 hS (by decide) (by decide)
  rw [jar_r (by decide)] at he
  have hi : jR i := jst_hd hst
  have k1 := k p l e R s m args below meth c G MC MS Z H locs cells slots ls cx hok hls (jst_cons (v := .inr (jY h a i.toNat)) trivial (jst_tl (jst_tl hst))) hc hs hz
  rw [List.map_cons, List.map_cons, show jV G (.inr a) = .ref (jgz G + (a - 2)) by show va_rf (jrf G a) = _; rw [jrf_at G h2]; rfl]
  rw [List.map_cons, ← j_ix hi] at k1
  have hin := j_in hi h0 h1
  have hlt : (Int32.ofInt i).toNatClampNeg < (jS h a).2 := Nat.not_le.mp fun q => hin (Or.inr q)
  have hat : H[jgz G + (a - 2)]? = some (arrV (jgA G 18) (jS h a).2 (fun j => va_rf (jrf G (jY h a j)))) := hok.2.2.1 (a - 2) _ he
  exact W.aald (ty := .object RX0) hx hb hat ((hok.2.1.1.2 2 (jgA G 18, .object RX0) rfl).1 _ _) rfl (fun q => by cases q) (by rw [arrV_size]; exact hin) (by rw [arrV_read _ _ hlt]; rfl) rfl rfl hd k1
theorem V_aald19 {a : Nat} {i : Int} (hd : decode (jmC M) pc = .ok (.aaload, 1)) (hS : (jS h a).1 = 19) (h0 : 0 ≤ i) (h1 : i < (jS h a).2)
    (k : V M d (pc + 1) L (.inr (jY h a i.toNat) :: st) h mc ms Q) : V M d pc L (.inl i :: .inr a :: st) h mc ms Q := by
  intro p l e R s m args below meth c G MC MS Z H locs cells slots ls cx hok hls hst hc hs hz
  obtain ⟨hx, hb, hml, hown, hts, hnm, hfr, hlo, hMC, hMS, hZ⟩ := id cx
  obtain ⟨h2, hn, he⟩ := jarr (G := G) hok.1 hS (by decide) (by decide)
  rw [jar_r (by decide)] at he
  have hi : jR i := jst_hd hst
  have k1 := k p l e R s m args below meth c G MC MS Z H locs cells slots ls cx hok hls (jst_cons (v := .inr (jY h a i.toNat)) trivial (jst_tl (jst_tl hst))) hc hs hz
  rw [List.map_cons, List.map_cons, show jV G (.inr a) = .ref (jgz G + (a - 2)) by show va_rf (jrf G a) = _; rw [jrf_at G h2]; rfl]
  rw [List.map_cons, ← j_ix hi] at k1
  have hin := j_in hi h0 h1
  have hlt : (Int32.ofInt i).toNatClampNeg < (jS h a).2 := Nat.not_le.mp fun q => hin (Or.inr q)
  have hat : H[jgz G + (a - 2)]? = some (arrV (jgA G 19) (jS h a).2 (fun j => va_rf (jrf G (jY h a j)))) := hok.2.2.1 (a - 2) _ he
  exact W.aald (ty := .object RX6) hx hb hat ((hok.2.1.1.2 3 (jgA G 19, .object RX6) rfl).1 _ _) rfl (fun q => by cases q) (by rw [arrV_size]; exact hin) (by rw [arrV_read _ _ hlt]; rfl) rfl rfl hd k1
theorem V_aald20 {a : Nat} {i : Int} (hd : decode (jmC M) pc = .ok (.aaload, 1)) (hS : (jS h a).1 = 20) (h0 : 0 ≤ i) (h1 : i < (jS h a).2)
    (k : V M d (pc + 1) L (.inr (jY h a i.toNat) :: st) h mc ms Q) : V M d pc L (.inl i :: .inr a :: st) h mc ms Q := by
  intro p l e R s m args below meth c G MC MS Z H locs cells slots ls cx hok hls hst hc hs hz
  obtain ⟨hx, hb, hml, hown, hts, hnm, hfr, hlo, hMC, hMS, hZ⟩ := id cx
  obtain ⟨h2, hn, he⟩ := jarr (G := G) hok.1 hS (by decide) (by decide)
  rw [jar_r (by decide)] at he
  have hi : jR i := jst_hd hst
  have k1 := k p l e R s m args below meth c G MC MS Z H locs cells slots ls cx hok hls (jst_cons (v := .inr (jY h a i.toNat)) trivial (jst_tl (jst_tl hst))) hc hs hz
  rw [List.map_cons, List.map_cons, show jV G (.inr a) = .ref (jgz G + (a - 2)) by show va_rf (jrf G a) = _; rw [jrf_at G h2]; rfl]
  rw [List.map_cons, ← j_ix hi] at k1
  have hin := j_in hi h0 h1
  have hlt : (Int32.ofInt i).toNatClampNeg < (jS h a).2 := Nat.not_le.mp fun q => hin (Or.inr q)
  have hat : H[jgz G + (a - 2)]? = some (arrV (jgA G 20) (jS h a).2 (fun j => va_rf (jrf G (jY h a j)))) := hok.2.2.1 (a - 2) _ he
  exact W.aald (ty := .array .int) hx hb hat ((hok.2.1.1.2 4 (jgA G 20, .array .int) rfl).1 _ _) rfl (fun q => by cases q) (by rw [arrV_size]; exact hin) (by rw [arrV_read _ _ hlt]; rfl) rfl rfl hd k1
theorem V_aast18 {a v : Nat} {i : Int} (hd : decode (jmC M) pc = .ok (.aastore, 1)) (hS : (jS h a).1 = 18) (h0 : 0 ≤ i) (h1 : i < (jS h a).2) (hv : (jS h v).1 = 0)
    (k : V M d (pc + 1) L st (jsY h a i.toNat v) mc ms Q) : V M d pc L (.inr v :: .inl i :: .inr a :: st) h mc ms Q := by
  intro p l e R s m args below meth c G MC MS Z H locs cells slots ls cx hok hls hst hc hs hz
  obtain ⟨hx, hb, hml, hown, hts, hnm, hfr, hlo, hMC, hMS, hZ⟩ := id cx
  obtain ⟨h2, hn, he⟩ := jarr (G := G) hok.1 hS (by decide) (by decide)
  rw [jar_r (by decide)] at he
  obtain ⟨v2, vn⟩ := jw_range hok.1 (a := v) (by rw [hv]; decide) (by rw [hv]; decide)
  have hev := jW_get G h v2 vn
  rw [jE_obj hv (by decide)] at hev
  have hi : jR i := jst_hd (jst_tl hst)
  rw [List.map_cons, List.map_cons, List.map_cons, show jV G (.inr a) = .ref (jgz G + (a - 2)) by (show va_rf (jrf G a) = _; rw [jrf_at G h2]; rfl), show jV G (.inr v) = .ref (jgz G + (v - 2)) by (show va_rf (jrf G v) = _; rw [jrf_at G v2]; rfl)]
  refine va_astq hx hb hok.2.1.1 hok.2.2.1 (jD G h) (jS_rf hok.2.2.2.1) (a - 2) 2 (v - 2) 0 (r := (RX0, jT_ 0, jF_ 0)) he rfl hev (jcl_get 0 (by decide)) (j_in hi h0 h1) hd (fun H1 locs1 hP1 _ hS1 => ?_)
  have hE : jE G (jsY h a i.toNat v) a = .inl (jgA G 18, (jS h a).2, .inr (.inr (.inr (.inr (va_up (fun j => jrf G (jY h a j)) (Int32.ofInt i).toNatClampNeg (some (jgz G + (v - 2)))))))) := by
    rw [jE_arr (show (jS (jsY h a i.toNat v) a).1 = 18 from hS) (by decide), jar_r (by decide), j_ix hi, ← jrf_at G v2]
    refine congrArg (fun f => (Sum.inl (jgA G 18, (jS h a).2, .inr (.inr (.inr (.inr f)))) : va_E)) (funext fun j => ?_)
    show jrf G (ju (jY h) a i.toNat v a j) = _
    unfold ju va_up
    by_cases e : j = i.toNat
    · rw [if_pos ⟨rfl, e⟩, if_pos e]
    · rw [if_neg (fun q => e q.2), if_neg e]
  have hW := jW_ext (h := h) (h' := jsY h a i.toNat v) rfl h2 hn hE jE_oY
  exact jfin (h' := jsY h a i.toNat v) hok hz rfl rfl rfl (jWf_Y hok.1) (by rw [hW]; exact hP1) hS1 (fun hok1 hz1 => k p l e R s m args below meth c G MC MS Z H1 locs1 cells slots ls cx hok1 hls (jst_tl (jst_tl (jst_tl hst))) hc hs hz1)
theorem V_aast19 {a v : Nat} {i : Int} (hd : decode (jmC M) pc = .ok (.aastore, 1)) (hS : (jS h a).1 = 19) (h0 : 0 ≤ i) (h1 : i < (jS h a).2) (hv : (jS h v).1 = 6)
    (k : V M d (pc + 1) L st (jsY h a i.toNat v) mc ms Q) : V M d pc L (.inr v :: .inl i :: .inr a :: st) h mc ms Q := by
  intro p l e R s m args below meth c G MC MS Z H locs cells slots ls cx hok hls hst hc hs hz
  obtain ⟨hx, hb, hml, hown, hts, hnm, hfr, hlo, hMC, hMS, hZ⟩ := id cx
  obtain ⟨h2, hn, he⟩ := jarr (G := G) hok.1 hS (by decide) (by decide)
  rw [jar_r (by decide)] at he
  obtain ⟨v2, vn⟩ := jw_range hok.1 (a := v) (by rw [hv]; decide) (by rw [hv]; decide)
  have hev := jW_get G h v2 vn
  rw [jE_obj hv (by decide)] at hev
  have hi : jR i := jst_hd (jst_tl hst)
  rw [List.map_cons, List.map_cons, List.map_cons, show jV G (.inr a) = .ref (jgz G + (a - 2)) by (show va_rf (jrf G a) = _; rw [jrf_at G h2]; rfl), show jV G (.inr v) = .ref (jgz G + (v - 2)) by (show va_rf (jrf G v) = _; rw [jrf_at G v2]; rfl)]
  refine va_astq hx hb hok.2.1.1 hok.2.2.1 (jD G h) (jS_rf hok.2.2.2.1) (a - 2) 3 (v - 2) 6 (r := (RX6, jT_ 6, jF_ 6)) he rfl hev (jcl_get 6 (by decide)) (j_in hi h0 h1) hd (fun H1 locs1 hP1 _ hS1 => ?_)
  have hE : jE G (jsY h a i.toNat v) a = .inl (jgA G 19, (jS h a).2, .inr (.inr (.inr (.inr (va_up (fun j => jrf G (jY h a j)) (Int32.ofInt i).toNatClampNeg (some (jgz G + (v - 2)))))))) := by
    rw [jE_arr (show (jS (jsY h a i.toNat v) a).1 = 19 from hS) (by decide), jar_r (by decide), j_ix hi, ← jrf_at G v2]
    refine congrArg (fun f => (Sum.inl (jgA G 19, (jS h a).2, .inr (.inr (.inr (.inr f)))) : va_E)) (funext fun j => ?_)
    show jrf G (ju (jY h) a i.toNat v a j) = _
    unfold ju va_up
    by_cases e : j = i.toNat
    · rw [if_pos ⟨rfl, e⟩, if_pos e]
    · rw [if_neg (fun q => e q.2), if_neg e]
  have hW := jW_ext (h := h) (h' := jsY h a i.toNat v) rfl h2 hn hE jE_oY
  exact jfin (h' := jsY h a i.toNat v) hok hz rfl rfl rfl (jWf_Y hok.1) (by rw [hW]; exact hP1) hS1 (fun hok1 hz1 => k p l e R s m args below meth c G MC MS Z H1 locs1 cells slots ls cx hok1 hls (jst_tl (jst_tl (jst_tl hst))) hc hs hz1)
theorem j_ofNat (n : Nat) : Int32.ofNat n = Int32.ofInt (n : Int) := by
  apply Int32.toBitVec.inj
  simp
theorem V_alen {a t : Nat} (hd : decode (jmC M) pc = .ok (.arraylength, 1)) (hS : (jS h a).1 = 16 + t) (ht : t < 5)
    (k : V M d (pc + 1) L (.inl ((jS h a).2 : Int) :: st) h mc ms Q) : V M d pc L (.inr a :: st) h mc ms Q := by
  intro p l e R s m args below meth c G MC MS Z H locs cells slots ls cx hok hls hst hc hs hz
  obtain ⟨hx, hb, hml, hown, hts, hnm, hfr, hlo, hMC, hMS, hZ⟩ := id cx
  obtain ⟨h2, hn, he⟩ := jarr (G := G) hok.1 hS (by omega) (by omega)
  have hlen : (jS h a).2 < 2147483648 := hok.1.2.2.2.2.2.2 a
  have k1 := k p l e R s m args below meth c G MC MS Z H locs cells slots ls cx hok hls (jst_cons (v := .inl ((jS h a).2 : Int)) ⟨by omega, by omega⟩ (jst_tl hst)) hc hs hz
  rw [List.map_cons, show jV G (.inr a) = .ref (jgz G + (a - 2)) by show va_rf (jrf G a) = _; rw [jrf_at G h2]; rfl]
  obtain ⟨ty, hty⟩ : ∃ ty, (jtys G)[t]? = some (jgA G (16 + t), ty) := by
    rcases (show t = 0 ∨ t = 1 ∨ t = 2 ∨ t = 3 ∨ t = 4 by omega) with rfl | rfl | rfl | rfl | rfl <;> exact ⟨_, rfl⟩
  exact va_alen hx hb hok.2.1.1 hok.2.2.1 (a - 2) t he hty (v := Int32.ofInt ((jS h a).2 : Int)) (by rw [← j_ofNat]; rfl) hd k1
theorem V_slen (hd : decode (jmC M) pc = .ok (.arraylength, 1))
    (k : V M d (pc + 1) L (.inl ((jS h 1).2 : Int) :: st) h mc ms Q) : V M d pc L (.inr 1 :: st) h mc ms Q := by
  intro p l e R s m args below meth c G MC MS Z H locs cells slots ls cx hok hls hst hc hs hz
  obtain ⟨hx, hb, hml, hown, hts, hnm, hfr, hlo, hMC, hMS, hZ⟩ := id cx
  have hlen : (jS h 1).2 < 2147483648 := hok.1.2.2.2.2.2.2 1
  have k1 := k p l e R s m args below meth c G MC MS Z H locs cells slots ls cx hok hls (jst_cons (v := .inl ((jS h 1).2 : Int)) ⟨by omega, by omega⟩ (jst_tl hst)) hc hs hz
  rw [List.map_cons, show jV G (.inl ((jS h 1).2 : Int)) = .int (Int32.ofNat (jS h 1).2) by rw [j_ofNat]; rfl] at k1
  obtain ⟨hw, hs9, hP, hSS, hsz, hbz, hz0, hX⟩ := hok
  exact va_slen (A := jAt G) hx hb hX (by omega) (by show ¬ jgz G ≤ jgb G; omega) (jS_rf hSS) hd k1
theorem V_sld {i : Int} (hd : decode (jmC M) pc = .ok (.iaload, 1)) (h0 : 0 ≤ i) (h1 : i < (jS h 1).2)
    (k : V M d (pc + 1) L (.inl (jX h 1 i.toNat) :: st) h mc ms Q) : V M d pc L (.inl i :: .inr 1 :: st) h mc ms Q := by
  intro p l e R s m args below meth c G MC MS Z H locs cells slots ls cx hok hls hst hc hs hz
  obtain ⟨hx, hb, hml, hown, hts, hnm, hfr, hlo, hMC, hMS, hZ⟩ := id cx
  have hi : jR i := jst_hd hst
  have k1 := k p l e R s m args below meth c G MC MS Z H locs cells slots ls cx hok hls (jst_cons (v := .inl (jX h 1 i.toNat)) (hok.1.2.2.1 _ _) (jst_tl (jst_tl hst))) hc hs hz
  rw [List.map_cons, ← j_ix hi] at k1
  obtain ⟨hw, hs9, hP, hSS, hsz, hbz, hz0, hX⟩ := hok
  exact va_sld (A := jAt G) (xs := fun j => Int32.ofInt (jX h 1 j)) hx hb hX (by omega) (by show ¬ jgz G ≤ jgb G; omega) (jS_rf hSS) (j_in hi h0 h1) hd k1
theorem V_ret (hm : mc = 0) (hm2 : ms = 0) {v : Option jA} (hd : decode (jmC M) pc = .ok (jRI (jmR M), 1)) (hr : jRet (jmR M) v) (hst0 : st = v.toList) (hQ : Q v h) : V M d pc L st h mc ms Q := by
  subst hm
  subst hm2
  subst hst0
  intro p l e R s m args below meth c G MC MS Z H locs cells slots ls cx hok hls hst hc hs hz
  obtain ⟨hx, hb, hml, hown, hts, hnm, hfr, hlo, hMC, hMS, hZ⟩ := id cx
  rw [Nat.add_zero] at hc hs
  subst hc
  subst hs
  exact hZ v h H locs pc ls hQ hok hr hz hd
end JK
