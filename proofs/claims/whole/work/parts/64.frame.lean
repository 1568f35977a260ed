/-! ===== both sides: frame; blocks as they lie ===== -/
section LK
variable {h g : jH} {node wi sn code cm s past : Nat → Int} {n nw nd ns u D : Nat} {K : Int}
theorem IV.blk (hI : IV h D node n nw nd wi sn ns code cm s past u K) {b : Nat} (hb : (b : Int) < s 3) : ∃ j, j < 6 ∧ jY h (jP h (jP h 2 4) 5) b = 53 + 6 * j ∧ BK h (53 + 6 * j) ∧ BRep h (53 + 6 * j) s node n (11 + 33 * b) := by
  have hx := hI.x
  have h6 := hI.si.2.2.2.2.2.2.1
  obtain ⟨a1, a2, a3, a4, a5, a6⟩ := id hx.k50
  obtain ⟨j, hj, ej⟩ := hx.b50.1 b (by omega)
  have hr := hI.rr.2.2.2.2.2.2 b hb
  rw [ej] at hr
  exact ⟨j, hj, by rw [hx.p4, a2, ej], a6 j hj, hr⟩
theorem IV.bs (hI : IV h D node n nw nd wi sn ns code cm s past u K) : jS h (jP h (jP h 2 4) 5) = (18, 6) := by
  have hx := hI.x
  rw [hx.p4, hx.k50.2.1]
  exact hx.k50.2.2.2.1
def okf (node s : Nat → Int) (n : Nat) (b a : Int) : Prop := (0 ≤ b ∧ b < s 3) ∧ (0 ≤ a ∧ a < n) ∧ node (6 * a.toNat) = 0
theorem eX8_frame {d : Nat} {b a : Int} (hI : IV h D node n nw nd wi sn ns code cm s past u K) :
    Ex MX8_frame (d + 2) [.inr 2, .inl b, .inl a] h 0 0 (fun v g => XF h g ∧ ∃ z, v = some (.inl z) ∧ QR (okf node s n b a) (fun z => z = s (11 + 33 * b.toNat + 3 + wr node a.toNat)) z) := by
  have hx := hI.x
  obtain ⟨d1, d2, d3, d4⟩ := hI.dd
  have hn12 := hI.dg.1
  have h6 := hI.si.2.2.2.2.2.2.1
  have kd : ∀ i, i < n → jX h (jP h (jP h 2 1) 4) i = node (6 * i) := fun i hi => by rw [d2, d3.2.1]; exact (hI.dr.2.2.2.2.1 i hi).1
  have ks : jS h (jP h (jP h 2 1) 4) = (16, 12) := by rw [d2, d3.2.1]; exact d3.2.2.2.2.2.2.2.2.2.2.1
  refine Ex_of_V tX8_frame (Nat.le_of_ble_eq_true rfl) ?_
  apply bX8_frame_0
  case q1 => rw [hI.b4]; intro q; exact ⟨XF.rf, _, rfl, Or.inl ⟨fun z => q z.1, rfl⟩⟩
  case q2 => rw [hI.n0]; intro _ q; exact ⟨XF.rf, _, rfl, Or.inl ⟨fun z => q ⟨z.2.1.1, z.2.1.2, by rw [kd _ (by have := z.2.1; omega)]; exact z.2.2⟩, rfl⟩⟩
  case q3 =>
    rw [hI.b4, hI.n0]
    intro o1 o2
    obtain ⟨j, hj, ej, bk, br⟩ := hI.blk (b := b.toNat) (by omega)
    have o3 := o2.2.2
    rw [kd _ (by omega)] at o3
    refine ⟨XF.rf, _, rfl, Or.inr ⟨⟨o1, ⟨o2.1, o2.2.1⟩, o3⟩, ?_⟩⟩
    rw [ej, bk.2.1]
    exact br.2.2.2.1 a.toNat (by omega) o3
  all_goals first
    | exact hx.s2
    | exact hI.dk
    | exact hI.rk
    | (rw [ks]; done)
    | (rw [hI.bs]; done)
    | (intro _; rw [hI.n0]; omega)
    | (rw [hI.b4, hI.n0]; intros; omega)
    | (rw [hI.b4, hI.n0]; intros; rw [hI.bs]; refine Int.lt_of_le_of_lt (b := 5) ?_ (by decide); omega)
    | (rw [hI.b4, hI.n0]; intros; obtain ⟨j, hj, ej, bk, br⟩ := hI.blk (b := b.toNat) (by omega); rw [ej]; exact bk.1)
    | (rw [hI.b4, hI.n0]; intros; obtain ⟨j, hj, ej, bk, br⟩ := hI.blk (b := b.toNat) (by omega); rw [ej, bk.2.1, bk.2.2.2.1]; done)
    | (rw [hI.b4, hI.n0]; intros; obtain ⟨j, hj, ej, bk, br⟩ := hI.blk (b := b.toNat) (by omega); rw [ej, bk.2.1, bk.2.2.2.1]; refine Int.lt_of_le_of_lt (b := 11) ?_ (by decide); omega)
theorem eX9_frame {d : Nat} {b a : Int} (hI : IV h D node n nw nd wi sn ns code cm s past u K) :
    Ex MX9_frame (d + 3) [.inr 476, .inl b, .inl a] h 0 0 (fun v g => XF h g ∧ ∃ z, v = some (.inl z) ∧ QR (okf node s n b a) (fun z => z = s (11 + 33 * b.toNat + 3 + wr node a.toNat)) z) := by
  have hM := hI.mk
  obtain ⟨m1, m2, m3, m4, m5, m6, m7, m8, m9⟩ := id hI.md
  have hn12 := hI.dg.1
  have h5 := hI.si.2.2.2.2.2.1
  have h6 := hI.si.2.2.2.2.2.2.1
  have wn := hI.dg.wn
  have k0 : 0 ≤ a → jX h (jP h 476 0) ((6 * a + 0).toNat) = node (6 * a.toNat) := fun q => by rw [hM.p0, m5, show (6 * a + 0).toNat = 6 * a.toNat by omega]
  have k5 : 0 ≤ a → jX h (jP h 476 0) ((6 * a + 5).toNat) = node (6 * a.toNat + 5) := fun q => by rw [hM.p0, m5, show (6 * a + 5).toNat = 6 * a.toNat + 5 by omega]
  have wb : 0 ≤ a → a < n → node (6 * a.toNat) = 0 → 0 ≤ node (6 * a.toNat + 5) ∧ node (6 * a.toNat + 5) < 6 := fun q1 q2 q3 => wn.2 a.toNat (by omega) q3
  refine Ex_of_V tX9_frame (Nat.le_of_ble_eq_true rfl) ?_
  apply bX9_frame_0
  case q1 => rw [hI.m3]; intro q; exact ⟨XF.rf, _, rfl, Or.inl ⟨fun z => q (by have := z.1; omega), rfl⟩⟩
  case q2 => rw [hI.m1]; intro _ q; exact ⟨XF.rf, _, rfl, Or.inl ⟨fun z => q ⟨z.2.1.1, by have := z.2.1; omega, by rw [k0 z.2.1.1]; exact z.2.2⟩, rfl⟩⟩
  case q3 =>
    rw [hI.m3, hI.m1]
    intro o1 o2
    have o3 := o2.2.2
    rw [k0 o2.1] at o3
    have hb := wb o2.1 (by omega) o3
    refine ⟨XF.rf, _, rfl, Or.inr ⟨⟨by omega, by omega, o3⟩, ?_⟩⟩
    rw [k5 o2.1, hM.p9, hI.es]
    congr 1
    unfold wr
    omega
  case r1 => rw [hI.m3]; intros; exact ⟨by omega, by omega⟩
  case r2 =>
    rw [hI.m3, hI.m1]
    intro o1 o2
    have o3 := o2.2.2
    rw [k0 o2.1] at o3
    have hb := wb o2.1 (by omega) o3
    rw [k5 o2.1]
    exact ⟨by omega, by omega⟩
  all_goals first
    | exact hM.x
    | (rw [hM.p9, hM.s482]; done)
    | (rw [hM.p0, hM.s477]; done)
    | (rw [hI.m3]; omega)
    | (intro _; rw [hI.m1]; omega)
    | (rw [hI.m3, hI.m1]; intro o1 o2; omega)
    | (rw [hI.m3, hI.m1]; intro o1 o2; have o3 := o2.2.2; rw [k0 o2.1] at o3; have hb := wb o2.1 (by omega) o3; rw [k5 o2.1]; omega)
    | (rw [hI.m3, hI.m1]; intro o1 o2; have o3 := o2.2.2; rw [k0 o2.1] at o3; have hb := wb o2.1 (by omega) o3; rw [k5 o2.1, hM.p9, hM.s482]; refine Int.lt_of_le_of_lt (b := 208) ?_ (by decide); omega)
theorem pair_frame {d d' : Nat} {a b : Int} (hI : IE h K) : Ex MX8_frame (d + 2) [.inr 2, .inl a, .inl b] h 0 0 (PR MX9_frame (d' + 3) [.inr 476, .inl a, .inl b] K) := by
  obtain ⟨D, node, n, nw, nd, wi, sn, ns, code, cm, s, past, u, hI⟩ := hI
  exact pair_q eqS hI (eX8_frame hI) (fun g hJ => eX9_frame hJ)
end LK
