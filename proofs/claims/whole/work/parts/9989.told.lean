/-! ===== the invariant behind tells ===== -/
section NF
variable {h g h0 g1 gE : jH} {b : Nat → Int} {c : Nat} {node wi sn code cm node' wi' sn' code' cm' s s' past : Nat → Int} {n nw nd ns D D' d p q f r u k o : Nat} {op x K : Int} {R : Option jA → jH → Prop}
theorem IX.pz (hI : IX h) (e : ∀ a, a ≠ 2 → a ≠ 49 → jP g a = jP h a) (e2 : ∀ k, k ≠ 1 → k ≠ 2 → jP g 2 k = jP h 2 k) (e49 : jP g 49 0 = jP h 49 0) (eS : jS g = jS h) (eY : ∀ a, ¬ (51 ≤ a ∧ a ≤ 88) → jY g a = jY h a) (hB : RB g 50) : IX g := by
  obtain ⟨x1, x2, x3, x4, x5, x6, x7, x8, x9, x10, x11, x12, x13, x14, x15, x16, x17, x18⟩ := hI
  have sk : ∀ r, 49 < r → SK h r → SK g r := by
    intro r hr z
    unfold SK BK at z ⊢
    rw [eS, e r (by omega) (by omega)]
    refine ⟨z.1, z.2.1, z.2.2.1, z.2.2.2.1, z.2.2.2.2.1, fun j hj => ?_⟩
    rw [e (r + 3 + 6 * j) (by omega) (by omega), e (r + 3 + 6 * j + 2) (by omega) (by omega)]
    exact z.2.2.2.2.2 j hj
  have rb : ∀ r, 88 ≤ r → RB h r → RB g r := by
    intro r hr z
    unfold RB at z ⊢
    rw [eY (r + 1) (by omega)]
    exact z
  have dk : ∀ r, r ≠ 2 → r ≠ 49 → DK h r → DK g r := by
    intro r h1 h2 z
    unfold DK at z ⊢
    rw [eS, e r h1 h2]
    exact z
  have dy : ∀ r, r < 40 → DY h r → DY g r := by
    intro r h1 z
    unfold DY at z ⊢
    rw [eY (r + 7) (by omega)]
    exact z
  refine ⟨?_, ?_, ?_, ?_, ?_, sk 50 (by omega) x6, sk 398 (by omega) x7, sk 437 (by omega) x8, dk 5 (by omega) (by omega) x9, dk 27 (by omega) (by omega) x10, dy 5 (by omega) x11, dy 27 (by omega) x12, ?_, hB, rb 398 (by omega) x15, rb 437 (by omega) x16, ?_, ?_⟩
  · rw [eS, e2 0 (by omega) (by omega), e2 3 (by omega) (by omega), e2 4 (by omega) (by omega), e2 5 (by omega) (by omega), e2 6 (by omega) (by omega), e2 7 (by omega) (by omega), e2 8 (by omega) (by omega), e2 9 (by omega) (by omega), e2 11 (by omega) (by omega), e2 12 (by omega) (by omega), e2 13 (by omega) (by omega)]; exact x1
  · rw [eS, e 3 (by omega) (by omega), e49]; exact x2
  · rw [eS, e 393 (by omega) (by omega)]; exact x3
  · unfold HK at x4 ⊢; rw [eS, e 329 (by omega) (by omega)]; exact x4
  · unfold HY at x5 ⊢; rw [eY 331 (by omega)]; exact x5
  · obtain ⟨o1, o2, o3, o4, o5, o6⟩ := x13
    exact ⟨by rw [eS]; exact o1, by rw [e 89 (by omega) (by omega)]; exact o2, by rw [eS]; exact o3, by rw [eY 90 (by omega)]; exact o4, by rw [eY 90 (by omega)]; exact o5, fun j hj => ⟨sk _ (by omega) (o6 j hj).1, rb _ (by omega) (o6 j hj).2⟩⟩
  · rw [eY 325 (by omega)]; exact x17
  · unfold MK at x18 ⊢; rw [eS, e 476 (by omega) (by omega)]; exact x18
/-- nodes and codes that agree where they count -/
def NCG (node node' : Nat → Int) (n nd : Nat) (code code' cm cm' : Nat → Int) : Prop :=
  (∀ k, k < 6 * n → node' k = node k) ∧ (∀ w, w < nd → ∀ j, j < 2 * (cm w).toNat → code' (40 * w + j) = code (40 * w + j)) ∧ ∀ k, k < nd → cm' k = cm k
theorem wr_cong (hk : k < n) (he : ∀ k, k < 6 * n → node' k = node k) : wr node' k = wr node k := by
  unfold wr; rw [he _ (by omega)]
theorem NB_tell (hk : k < n) (hN : NCG node node' n nd code code' cm cm') (hB : NB node nw nd ns code cm k) : NB node' nw nd ns code' cm' k := by
  obtain ⟨he, hc, hm⟩ := hN
  have ew := wr_cong hk he
  unfold NB at hB ⊢
  rw [he (6 * k) (by omega), he (6 * k + 1) (by omega), he (6 * k + 2) (by omega), he (6 * k + 3) (by omega), he (6 * k + 4) (by omega), he (6 * k + 5) (by omega), ew]
  obtain ⟨b1, b2, b3, b4⟩ := hB
  refine ⟨?_, b2, b3, b4⟩
  rcases b1 with z | z | ⟨z1, z2, z3, z4, z5, z6, z7⟩
  · left; exact z
  · right; left; exact z
  · right; right
    have hw : wr node k < nd := by unfold wr; omega
    rw [hm _ hw]
    refine ⟨z1, z2, z3, z4, z5, z6, CW_cong (fun i hi => ⟨(hc _ hw _ (by omega)).symm, ?_⟩) z7⟩
    have := hc _ hw (2 * i + 1) (by omega)
    rw [← Nat.add_assoc] at this
    exact this.symm
theorem DG_tell (hN : NCG node node' n nd code code' cm cm') (hw : ∀ k, k < ns → wi' k = wi k ∧ sn' k = sn k) (hG : DG node n nw nd wi sn ns code cm) : DG node' n nw nd wi' sn' ns code' cm' := by
  obtain ⟨g1, g2, g3, g4, g5, g6, g7, g8, g9, g10⟩ := hG
  have he := hN.1
  refine ⟨g1, g2, g3, g4, fun k hk => NB_tell hk hN (g5 k hk), ?_, ?_, ?_, ?_, ?_⟩
  · intro j k hj hk e1 e2 e3
    rw [he _ (by omega)] at e1 e2
    rw [he _ (by omega), he _ (by omega)] at e3
    exact g6 j k hj hk e1 e2 e3
  · intro k hk
    rw [(hw k hk).1, (hw k hk).2, de_cong ns k (fun j hj => (hw j hj).1)]
    exact g7 k hk
  · intro j k hj hk e1 e2
    rw [he _ (by omega), he _ (by omega)] at e1 e2
    exact g8 j k hj hk e1 e2
  · intro j k hj hk e1 e2
    rw [(hw j hj).1, (hw k hk).1] at e1
    rw [(hw j hj).2, (hw k hk).2] at e2
    exact g9 j k hj hk e1 e2
  · intro j k hj hk e1 e2
    rw [he _ (by omega), (hw k hk).1] at e1
    rw [he _ (by omega), (hw k hk).2] at e2
    exact g10 j k hj hk e1 e2
theorem DRep_tell (hG : DG node n nw nd wi sn ns code cm) (hN : NCG node node' n nd code code' cm cm') (hw : ∀ k, k < ns → wi' k = wi k ∧ sn' k = sn k) (hR : DRep h D node n nw nd wi sn ns code cm) : DRep h D node' n nw nd wi' sn' ns code' cm' := by
  obtain ⟨r1, r2, r3, r4, r5, r6⟩ := hR
  obtain ⟨he, hc, hm⟩ := hN
  refine ⟨r1, r2, r3, r4, fun k hk => ?_, fun k hk => by rw [(hw k hk).1, (hw k hk).2]; exact r6 k hk⟩
  have hB := (hG.2.2.2.2.1 k hk).1
  obtain ⟨q1, q2, q3, q4, q5, q6⟩ := r5 k hk
  unfold NRep
  rw [he (6 * k) (by omega), he (6 * k + 1) (by omega), he (6 * k + 2) (by omega), he (6 * k + 3) (by omega), he (6 * k + 4) (by omega), wr_cong hk he]
  refine ⟨q1, q2, q3, q4, q5, fun z => ?_⟩
  have hwr : wr node k < nd := by unfold wr; omega
  rw [hm _ hwr]
  refine ⟨(q6 z).1, fun j hj => ?_⟩
  have e1 := hc _ hwr (2 * j) (by omega)
  have e2 := hc _ hwr (2 * j + 1) (by omega)
  rw [← Nat.add_assoc] at e2
  rw [e1, e2]
  exact (q6 z).2 j hj
theorem RecRep.nodes (he : ∀ k, k < 6 * n → node' k = node k) (hR : RecRep h r s node n) : RecRep h r s node' n := by
  obtain ⟨r1, r2, r3, r4, r5, r6, r7⟩ := hR
  refine ⟨r1, r2, r3, r4, r5, fun k hk => by rw [he _ (by omega), wr_cong hk he]; exact r6 k hk, fun i hi => ?_⟩
  obtain ⟨q1, q2, q3, q4, q5⟩ := r7 i hi
  refine ⟨q1, q2, q3, fun k hk => by rw [he _ (by omega), wr_cong hk he]; exact q4 k hk, fun j hj => ?_⟩
  obtain ⟨w1, w2, k, w3, w4, w5, w6⟩ := q5 j hj
  exact ⟨w1, w2, k, w3, by rw [he _ (by omega)]; exact w4, w5, by rw [he _ (by omega)]; exact w6⟩
def TLP (a : Nat) : Prop := (477 ≤ a ∧ a ≤ 482) ∨ a = 485 ∨ (487 ≤ a ∧ a ≤ 492)
def TLF (k : Nat) : Prop := (1 ≤ k ∧ k ≤ 3) ∨ k = 6 ∨ k = 11 ∨ (15 ≤ k ∧ k ≤ 20) ∨ (22 ≤ k ∧ k ≤ 24) ∨ k = 27 ∨ k = 30 ∨ k = 31 ∨ (33 ≤ k ∧ k ≤ 35) ∨ k = 49
/-- all is told: the invariant -/
theorem IV.told (hx : IX h) (hd : (D = 5 ∧ jP h 2 1 = 5 ∧ jP h 2 2 = 27) ∨ (D = 27 ∧ jP h 2 1 = 27 ∧ jP h 2 2 = 5)) (hR : DRep h D node n nw nd wi sn ns code cm) (hG : DG node n nw nd wi sn ns code cm) (rr : RecRep h 50 s00 node n) (i89 : jI h 89 0 = 0) (k0 : jX h 326 0 = 0) (k1 : jX h 326 1 = 0) (i10 : jI h 2 10 = 0) (i31 : jI h 3 1 = 0)
    (fm : MF TLP TLF h g) (m1 : jI g 476 1 = (n : Int)) (m2 : jI g 476 2 = (nw : Int)) (m3 : jI g 476 3 = (nd : Int)) (m6 : jI g 476 6 = (ns : Int)) (hN : NCG node (jX g 477) n nd code (jX g 480) cm (jX g 481)) (hw : ∀ k, k < ns → jX g 478 k = wi k ∧ jX g 479 k = sn k) (hs : ∀ k, k < 209 → jX g 482 k = s00 k) (m11 : jI g 476 11 = 0) (m49 : jI g 476 49 = 0) (m15 : jI g 476 15 = 0) (y0 : jX g 485 0 = 0) (y1 : jX g 485 1 = 0) (hK : 0 ≤ K) :
    IV g D (jX g 477) n nw nd (jX g 478) (jX g 479) ns (jX g 480) (jX g 481) (jX g 482) (jX g 483) 0 K := by
  have eI : ∀ a, a ≠ 476 → jI g a = jI h a := fm.2.2.2.2.2.1
  have eX : ∀ a, a < 477 → jX g a = jX h a := fun a ha => fm.2.2.2.2.1 a (by unfold TLP; omega)
  have fp : FP (fun a => 476 ≤ a) h g := ⟨fm.1, fm.2.1, fm.2.2.1, fun a ha => ⟨eI a (by omega), eX a (by omega), by rw [fm.2.2.2.1]⟩⟩
  have hx2 : IX g := hx.pz (fun a _ _ => by rw [fm.1]) (fun k _ _ => by rw [fm.1]) (by rw [fm.1]) fm.2.1 (fun a _ => by rw [fm.2.2.2.1]) (hx.b50.fp fp (by omega))
  have hG2 := DG_tell hN hw hG
  have si : SI s00 (jX g 477) n K := SI_0 hK
  have rr2 := (rr.nodes hN.1).fp hx.b50 si.2.2.2.2.2.2.1 fp (fun a h1 h2 => by omega)
  have hD : D = 5 ∨ D = 27 := by rcases hd with z | z <;> omega
  refine ⟨hx2, ⟨by rw [fm.1]; exact hd, (DRep_tell hG hN hw hR).fp fp hG.1 (fun a h1 h2 => by omega), ⟨m1, m2, m3, m6, rfl, rfl, rfl, rfl, rfl⟩, hG2⟩, ⟨rr2.row hG2.wn si hs, rfl, si.row hs⟩, ⟨⟨by rw [eI 89 (by omega), i89]; rfl, by omega, fun i hi => absurd hi (Nat.not_lt_zero _)⟩, rfl, m11⟩, ⟨by rw [eX 326 (by omega), k0, y0], Or.inl (by rw [eX 326 (by omega)]; exact k0), fun z => ?_⟩, ⟨by rw [eX 326 (by omega), k1, y1], Or.inl (by rw [eX 326 (by omega)]; exact k1), fun z => ?_⟩, ⟨0, by rw [eI 2 (by omega)]; exact i10, m49, by omega, fun i hi => absurd hi (Nat.not_lt_zero _)⟩, ⟨0, by rw [eI 3 (by omega)]; exact i31, m15, by omega, fun i hi => absurd hi (Nat.not_lt_zero _)⟩⟩
  · rw [eX 326 (by omega), k0] at z; exact absurd z (by decide)
  · rw [eX 326 (by omega), k1] at z; exact absurd z (by decide)
/-- a text that fails: all as it was -/
theorem IV.p49 (hI : IV h D node n nw nd wi sn ns code cm s past u K) : IV (jsP h 49 1 D') D node n nw nd wi sn ns code cm s past u K := by
  have hx := hI.x
  obtain ⟨v1, ⟨v2, v3, v4, v5⟩, ⟨v6, v7, v8⟩, ⟨v9, v10, v11⟩, v12, v13, v14, v15⟩ := hI
  refine ⟨hx.pz (fun a h1 h2 => funext fun k => by rw [jP_sP, if_neg (by omega)]) (fun k _ _ => by rw [jP_sP, if_neg (by omega)]) (by rw [jP_sP, if_neg (by omega)]) rfl (fun a _ => rfl) hx.b50, ⟨?_, v3, v4, v5⟩, ⟨v6, v7, v8⟩, ⟨v9, v10, v11⟩, v12, v13, v14, v15⟩
  rw [jP_sP, if_neg (by omega), jP_sP, if_neg (by omega)]
  exact v2
theorem IV.dft (hI : IV h D node n nw nd wi sn ns code cm s past u K) (hd : (D = 5 ∧ D' = 27) ∨ (D = 27 ∧ D' = 5)) (f : IFr D' h g) : IV g D node n nw nd wi sn ns code cm s past u K := by
  have hx := hI.x
  obtain ⟨v1, ⟨v2, v3, v4, v5⟩, ⟨v6, v7, v8⟩, ⟨v9, v10, v11⟩, v12, v13, v14, v15⟩ := hI
  have fp : FP (fun a => (D' ≤ a ∧ a ≤ D' + 21) ∨ a = 3 ∨ a = 49) h g := ⟨f.1, f.2.1, f.2.2.1, fun a ha => ⟨f.2.2.2.2.2.1 a (by omega) (by omega) (by omega), f.2.2.2.2.1 a (by omega), by rw [f.2.2.2.1]⟩⟩
  have hsi := v8.2.2.2.2.2.2.1
  have e : ∀ a, 49 < a ∨ a < 5 → jX g a = jX h a := fun a ha => f.2.2.2.2.1 a (by omega)
  have ei : ∀ a, 49 < a ∨ a < 3 → jI g a = jI h a := fun a ha => f.2.2.2.2.2.1 a (by omega) (by omega) (by omega)
  obtain ⟨x1, x2, x3, x4, x5, x6, x7, x8, x9, x10, x11, x12, x13, x14, x15, x16, x17, x18⟩ := id v1
  refine ⟨hx.pz (fun a _ _ => by rw [f.1]) (fun k _ _ => by rw [f.1]) (by rw [f.1]) f.2.1 (fun a _ => by rw [f.2.2.2.1]) (hx.b50.fp fp (by omega)), ⟨by rw [f.1]; exact v2, v3.fp fp v5.1 (fun a h1 h2 => by omega), v4.fp fp (fun a h1 h2 => by omega), v5⟩, ⟨v6.fp x14 hsi fp (fun a h1 h2 => by omega), by rw [e 482 (by omega)]; exact v7, v8⟩, ⟨v9.fp x13 fp (fun a h1 h2 => by omega), by rw [e 483 (by omega)]; exact v10, by rw [ei 476 (by omega)]; exact v11⟩, ?_, ?_, ?_, ?_⟩
  · obtain ⟨y1, y2, y3⟩ := v12
    unfold IK
    rw [e 326 (by omega), e 485 (by omega), e 484 (by omega)]
    exact ⟨y1, y2, fun z => ⟨(y3 z).1.fp x15 (y3 z).2.2.2.2.2.2.2.1 fp (fun a h1 h2 => by omega), (y3 z).2⟩⟩
  · obtain ⟨y1, y2, y3⟩ := v13
    unfold IK
    rw [e 326 (by omega), e 485 (by omega), e 484 (by omega)]
    exact ⟨y1, y2, fun z => ⟨(y3 z).1.fp x16 (y3 z).2.2.2.2.2.2.2.1 fp (fun a h1 h2 => by omega), (y3 z).2⟩⟩
  · unfold IO
    rw [e 327 (by omega), e 328 (by omega), e 503 (by omega), ei 476 (by omega), ei 2 (by omega)]
    exact v14
  · unfold IT
    rw [e 4 (by omega), e 486 (by omega), ei 476 (by omega), f.2.2.2.2.2.2 1 (by omega)]
    exact v15
end NF
