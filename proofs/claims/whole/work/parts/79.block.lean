/-! ===== both sides: block, change ===== -/
section LZ
variable {h g : jH} {node wi sn code cm s past : Nat → Int} {n nw nd ns u D : Nat} {K : Int}
theorem IV.w1 (hI : IV h D node n nw nd wi sn ns code cm s past u K) : jI h (jP h 2 1) 1 = (nw : Int) := by rw [hI.dd.2.1]; exact hI.dr.2.1
theorem IV.m2w (hI : IV h D node n nw nd wi sn ns code cm s past u K) : jI h 476 2 = (nw : Int) := hI.md.2.1
theorem IV.nw6 (hI : IV h D node n nw nd wi sn ns code cm s past u K) : nw ≤ 6 := hI.dg.2.1
/-- the changes of block b of the class -/
theorem IV.chg (hI : IV h D node n nw nd wi sn ns code cm s past u K) {b B : Nat} (hb : (b : Int) < s 3) (hB : BK h B) (hR : BRep h B s node n (11 + 33 * b)) :
    jI h (jP h B 3) 0 = (bM s b : Int) ∧ bM s b ≤ 8 ∧ (∀ i, i < bM s b → jX h (jP h (jP h B 3) 3) (0 + i) = bV s b (0 + i) ∧ jX h (jP h (jP h B 3) 1) (0 + i) = bT s b (0 + i)) ∧ (jS h (jP h B 3)).1 = 1 ∧ jS h (jP h (jP h B 3) 3) = (16, 8) ∧ jS h (jP h (jP h B 3) 1) = (16, 8) ∧ jS h (jP h (jP h B 3) 2) = (16, 8) ∧ SB s node n b := by
  have hs := hI.si.2.2.2.2.2.2.2.2.2.2 b hb
  obtain ⟨b1, b2, b3, b4, b5, b6, b7, b8⟩ := id hs
  obtain ⟨k1, k2, k3, k4, k5, k6, k7, k8, k9, k10, k11⟩ := hB
  obtain ⟨r0, r1, r2, r3, r4⟩ := hR
  rw [k3, k6, k7, k8]
  refine ⟨by rw [r2]; unfold bM; omega, by unfold bM; omega, fun i hi => ?_, k5, k11, k9, k10, hs⟩
  rw [Nat.zero_add]
  have := r4 i (by unfold bM at hi; omega)
  exact ⟨this.2.1, this.1⟩
theorem eX8_roomOf {d b : Nat} (hI : IV h D node n nw nd wi sn ns code cm s past u K) (hb : (b : Int) < s 3) :
    Ex MX8_roomOf (d + 4) [.inr 2, .inr (jY h (jP h (jP h 2 4) 5) b)] h 0 0 (fun r g => r = some (.inl (rob s nw b)) ∧ g = h) := by
  have hx := hI.x
  obtain ⟨j, hj, ej, bk, br⟩ := hI.blk hb
  obtain ⟨c1, c2, c3, c4, c5, c6, c7, c8⟩ := hI.chg hb bk br
  have hs0 := hI.si.2.1
  have hnw := hI.nw6
  rw [ej]
  refine Ex_of_V tX8_roomOf (Nat.le_of_ble_eq_true rfl) ?_
  apply bX8_roomOf_0
  case e1 =>
    rw [hI.w1, br.1, c1]
    have h9 := eX1_room (d := d) (h := h) (c := jP h (53 + 6 * j) 3) (a := 0) (n := bM s b) (wc := (nw : Int)) (b := s (11 + 33 * b)) c4 (by rw [c5]) (by rw [c5]; omega) (by rw [c5]; decide) (by rw [c6]) (by rw [c6]; omega) (by omega) (by omega) c8.1 (by have := c8.2.1; omega) (fun i hi => by rw [(c3 i hi).2, Nat.zero_add]; have := c8.tm hi; have := c8.1; omega)
    rw [Nat.zero_add, rm_cong c3] at h9
    refine Ex.mono h9 ?_
    rintro r g ⟨rfl, rfl⟩
    apply bX8_roomOf_26
    exact ⟨rfl, rfl⟩
  all_goals first
    | exact hx.s2
    | exact hI.dk
    | exact bk.1
    | exact c4
def okb (s : Nat → Int) (b what : Int) : Prop := (0 ≤ b ∧ b < s 3) ∧ 0 ≤ what ∧ what ≤ 4
def blv (s : Nat → Int) (nw b : Nat) (what : Int) : Int := if what < 3 then s (11 + 33 * b + what.toNat) else if what = 3 then (dc (bV s b) 0 (bM s b) : Int) else rob s nw b
theorem eX8_block {d : Nat} {b what : Int} (hI : IV h D node n nw nd wi sn ns code cm s past u K) :
    Ex MX8_block (d + 5) [.inr 2, .inl b, .inl what] h 0 0 (fun v g => XF h g ∧ ∃ z, v = some (.inl z) ∧ QR (okb s b what) (fun z => z = blv s nw b.toNat what) z) := by
  have hx := hI.x
  refine Ex_of_V tX8_block (Nat.le_of_ble_eq_true rfl) ?_
  by_cases ok : 0 ≤ b ∧ b < s 3
  · have hb : ((b.toNat : Nat) : Int) < s 3 := by omega
    obtain ⟨j, hj, ej, bk, br⟩ := hI.blk hb
    obtain ⟨c1, c2, c3, c4, c5, c6, c7, c8⟩ := hI.chg hb bk br
    apply bX8_block_0
    case q1 => intro _ q; subst q; refine ⟨XF.rf, _, rfl, Or.inr ⟨⟨ok, by omega, by omega⟩, ?_⟩⟩; rw [ej, br.1]; rfl
    case q2 => intro _ _ q; subst q; refine ⟨XF.rf, _, rfl, Or.inr ⟨⟨ok, by omega, by omega⟩, ?_⟩⟩; rw [ej, br.2.1]; rfl
    case q3 =>
      intro _ _ _ q
      subst q
      refine ⟨XF.rf, _, rfl, Or.inr ⟨⟨ok, by omega, by omega⟩, ?_⟩⟩
      rw [ej, bk.2.2.1, br.2.2.1]
      rfl
    case q4 => intro _ _ _ _ _ _; exact ⟨XF.rf, _, rfl, Or.inl ⟨fun z => by have := z.2; omega, rfl⟩⟩
    case q5 => rw [hI.b4]; intro q; exact absurd ok q
    case e1 =>
      intro _ _ _ _ q
      subst q
      rw [ej, c1]
      have h9 := eX1_different (d := d) (h := h) (c := jP h (53 + 6 * j) 3) (a := 0) (n := bM s b.toNat) c4 (by rw [c5]) (by rw [c5]; omega) (by rw [c5]; decide)
      rw [Nat.zero_add, dc_cong (f' := bV s b.toNat) _ (fun i hi => (c3 i hi).1)] at h9
      refine Ex.mono h9 ?_
      rintro r g ⟨rfl, rfl⟩
      apply bX8_block_89
      exact ⟨XF.rf, _, rfl, Or.inr ⟨⟨ok, by omega, by omega⟩, rfl⟩⟩
    case e2 =>
      intro _ _ _ _ _ q
      subst q
      refine Ex.mono (eX8_roomOf hI hb) ?_
      rintro r g ⟨rfl, rfl⟩
      apply bX8_block_95
      exact ⟨XF.rf, _, rfl, Or.inr ⟨⟨ok, by omega, by omega⟩, rfl⟩⟩
    all_goals first
      | exact hx.s2
      | exact hI.rk
      | (rw [hI.bs]; done)
      | (rw [hI.b4]; intros; omega)
      | (intros; omega)
      | (intros; rw [hI.bs]; refine Int.lt_of_le_of_lt (b := 5) ?_ (by decide); have := hI.si.2.2.2.2.2.2.1; omega)
      | (intros; rw [ej]; exact bk.1)
      | (intros; rw [ej]; exact c4)
  · apply bX8_block_0
    case q5 => intro _; exact ⟨XF.rf, _, rfl, Or.inl ⟨fun z => ok z.1, rfl⟩⟩
    all_goals (try rw [hI.b4])
    all_goals first
      | exact hx.s2
      | exact hI.rk
      | (rw [hI.bs]; done)
      | (intro q; exact absurd q ok)
theorem eX9_block {d : Nat} {b what : Int} (hI : IV h D node n nw nd wi sn ns code cm s past u K) :
    Ex MX9_block (d + 3) [.inr 476, .inl b, .inl what] h 0 0 (fun v g => XF h g ∧ ∃ z, v = some (.inl z) ∧ QR (okb s b what) (fun z => z = blv s nw b.toNat what) z) := by
  have hM := hI.mk
  have h5 := hI.si.2.2.2.2.2.1
  have h6 := hI.si.2.2.2.2.2.2.1
  refine Ex_of_V tX9_block (Nat.le_of_ble_eq_true rfl) ?_
  apply bX9_block_0
  case q1 => rw [hI.m3]; intro q; exact ⟨XF.rf, _, rfl, Or.inl ⟨fun z => q (by have := z.1; omega), rfl⟩⟩
  case q3 => intro _ q; exact ⟨XF.rf, _, rfl, Or.inl ⟨fun z => q z.2, rfl⟩⟩
  case q2 =>
    rw [hI.m3]
    intro q1 q2 q3
    refine ⟨XF.rf, _, rfl, Or.inr ⟨⟨by omega, q2⟩, ?_⟩⟩
    unfold blv
    rw [if_pos (by omega), hM.p9, hI.es]
    congr 1
    omega
  case e1 =>
    rw [hI.m3]
    intro q1 q2 q3
    have eb : ((b.toNat : Nat) : Int) = b := by omega
    have h9 := eX9_roomOfBlock (d := d) (b := b.toNat) hM hI.es hI.si (by omega) hI.m2w hI.nw6
    rw [eb] at h9
    refine Ex.mono h9 ?_
    rintro r g ⟨rfl, f, ws, -⟩
    have xf : XF h g := f.xf (fun a ha => by unfold sc; omega) (fun k hk => by unfold sf; omega)
    apply bX9_block_41
    case q1 =>
      intro q
      refine ⟨xf, _, rfl, Or.inr ⟨⟨by omega, q2⟩, ?_⟩⟩
      unfold blv
      rw [if_neg (by omega), if_neg q]
    case q2 =>
      intro q
      refine ⟨xf, _, rfl, Or.inr ⟨⟨by omega, q2⟩, ?_⟩⟩
      unfold blv
      rw [if_neg (by omega), if_pos q]
      exact ws.1
    all_goals first
      | exact (f.mk hM).x
      | omega
  all_goals (try rw [hI.m3])
  all_goals first
    | exact hM.x
    | (rw [hM.p9, hM.s482]; done)
    | (intros; exact ⟨by omega, by omega⟩)
    | exact ⟨by omega, by omega⟩
    | omega
    | (intros; omega)
    | (intros; rw [hM.p9, hM.s482]; refine Int.lt_of_le_of_lt (b := 208) ?_ (by decide); omega)
theorem pair_block {d d' : Nat} {a b : Int} (hI : IE h K) : Ex MX8_block (d + 5) [.inr 2, .inl a, .inl b] h 0 0 (PR MX9_block (d' + 3) [.inr 476, .inl a, .inl b] K) := by
  obtain ⟨D, node, n, nw, nd, wi, sn, ns, code, cm, s, past, u, hI⟩ := hI
  exact pair_q eqS hI (eX8_block hI) (fun g hJ => eX9_block hJ)
end LZ
