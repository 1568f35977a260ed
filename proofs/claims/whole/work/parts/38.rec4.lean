/-! ===== SignalWaves$Recording: restart, give, turn ===== -/
section KI
variable {h g : jH} {s node : Nat → Int} {n : Nat} {K : Int}
theorem eX6_restart {d r : Nat} (hr : SK h r) (br : RB h r) (hN : WN node n) :
    Ex MX6_restart (d + 2) [.inr r] h 0 0 (fun v g => v = none ∧ Fr r (r + 39) h g ∧ RB g r ∧ RecRep g r s00 node n) := by
  obtain ⟨a1, a2, a3, a4, a5, a6⟩ := id hr
  refine Ex_of_V tX6_restart (Nat.le_of_ble_eq_true rfl) ?_
  apply bX6_restart_0
  case s1 => exact a1
  rw [a3]
  refine Ex.mono (eJ7_fill (N := 12) (by show (jS h (r + 2)).1 = 16; rw [a5]) (by show (jS h (r + 2)).2 = 12; rw [a5]) (by omega)) ?_
  rintro v g ⟨rfl, rfl⟩
  have fr1 : Fr r (r + 39) h (jfil (jsI (jsI (jsI (jsI (jsI h r 0 0) r 1 1) r 2 4) r 3 0) r 4 0) (r + 2) 0 12 (fun _ => 0)) :=
    Fr.trans (Fr.trans (Fr.trans (Fr.trans (Fr.trans (Fr.sI (by omega) (by omega)) (Fr.sI (by omega) (by omega))) (Fr.sI (by omega) (by omega))) (Fr.sI (by omega) (by omega))) (Fr.sI (by omega) (by omega))) (Fr.fil (by omega) (by omega))
  have rep1 : RecRep (jfil (jsI (jsI (jsI (jsI (jsI h r 0 0) r 1 1) r 2 4) r 3 0) r 4 0) (r + 2) 0 12 (fun _ => 0)) r (fun k => if k = 1 then 1 else if k = 2 then 4 else 0) node n := by
    refine ⟨by simp [jI_fil, jI_sI], by simp [jI_fil, jI_sI], by simp [jI_fil, jI_sI], by simp [jI_fil, jI_sI], by simp [jI_fil, jI_sI], fun k hk hw => ?_, fun i hi => ?_⟩
    · have := hN.1
      rw [jX_fil, if_pos ⟨rfl, by omega, by omega⟩]
      show (0 : Int) = (if 5 + wr node k = 1 then (1 : Int) else if 5 + wr node k = 2 then 4 else 0)
      rw [if_neg (by omega), if_neg (by omega)]
    · have : (i : Int) < 0 := hi
      omega
  have br1 : RB (jfil (jsI (jsI (jsI (jsI (jsI h r 0 0) r 1 1) r 2 4) r 3 0) r 4 0) (r + 2) 0 12 (fun _ => 0)) r := br
  generalize jfil (jsI (jsI (jsI (jsI (jsI h r 0 0) r 1 1) r 2 4) r 3 0) r 4 0) (r + 2) 0 12 (fun _ => 0) = g1 at fr1 rep1 br1
  apply bX6_restart_33
  case s1 => rw [fr1.2.1]; exact a1
  refine Ex.mono (eX6_begin5 (hr.fr fr1.1 fr1.2.1) br1 hN (by decide) (by decide) (fun i hi => by have : (i : Int) < 0 := hi; omega) rep1) ?_
  rintro v g2 ⟨rfl, c1, c2, c3⟩
  apply bX6_restart_37
  exact ⟨rfl, fr1.trans c1, c2, c3⟩
theorem lo_at (h1 : 1 ≤ s 3) : ∃ l : Nat, s 3 = (l : Int) + 1 ∧ lo s = 11 + 33 * l := ⟨(s 3 - 1).toNat, by omega, rfl⟩
/-- a change comes to the last block, and the wire has its value -/
theorem give_rep {r B k w : Nat} {v : Int} (hr : SK h r) (br : RB h r) (hN : WN node n) (hs : SI s node n K) (rep : RecRep h r s node n) (hm : s (lo s + 2) ≤ 7) (hk : k < n) (hkw : node (6 * k) = 0) (hw : node (6 * k + 5) = (w : Int))
    (hinj : ∀ k', k' < n → node (6 * k') = 0 → node (6 * k' + 5) = (w : Int) → k' = k) (hB : jY h (r + 1) (s 3 - 1).toNat = B) :
    Fr r (r + 39) h (jsX (chadd h (B + 2) (s 0) k v) (r + 2) k v) ∧ RB (jsX (chadd h (B + 2) (s 0) k v) (r + 2) k v) r ∧ RecRep (jsX (chadd h (B + 2) (s 0) k v) (r + 2) k v) r (gch (up s (5 + w) v) w v) node n := by
  obtain ⟨a1, a2, a3, a4, a5, a6⟩ := id hr
  obtain ⟨p0, p1, p2, p3, p4, p5, p6⟩ := id rep
  obtain ⟨i0, i1, i2, i3, i4, i5, i6, i7, i8, i9, i10⟩ := id hs
  obtain ⟨l, hl, hlo⟩ := lo_at i5
  obtain ⟨j, hj, ej⟩ := br.1 (s 3 - 1).toNat (by omega)
  have hjl : (s 3 - 1).toNat = l := by omega
  rw [hB] at ej
  have bk := a6 j hj
  rw [← ej] at bk
  obtain ⟨b1, b2, b3, b4, b5, b6, b7, b8, b9, b10, b11⟩ := id bk
  have hlast := p6 l (by omega)
  rw [← hjl, hB, hjl] at hlast
  have hsl := i10 l (by omega)
  obtain ⟨m, hm2⟩ : ∃ m : Nat, s (11 + 33 * l + 2) = m := ⟨(s (11 + 33 * l + 2)).toNat, by have := hsl.2.2.2.1; omega⟩
  rw [hlo, hm2] at hm
  have hcount : jI h (B + 2) 0 = (m : Int) := hlast.2.2.1.trans hm2
  have w6 : w < 6 := by have := hN.2 k hk hkw; omega
  have u3 : up s (5 + w) v 3 = s 3 := if_neg (by omega)
  have ulo : lo (up s (5 + w) v) = 11 + 33 * l := by unfold lo; rw [u3, hjl]
  have g0 : ∀ i, gch (up s (5 + w) v) w v i = if i = 11 + 33 * l + 9 + 3 * m then s 0 else if i = 11 + 33 * l + 9 + 3 * m + 1 then (w : Int) else if i = 11 + 33 * l + 9 + 3 * m + 2 then v else if i = 11 + 33 * l + 2 then (m : Int) + 1 else up s (5 + w) v i := fun i => by
    have q : up s (5 + w) v (11 + 33 * l + 2) = m := (if_neg (by omega)).trans hm2
    have q0 : up s (5 + w) v 0 = s 0 := if_neg (by omega)
    unfold gch
    rw [ulo, q, q0, Int.toNat_natCast]
  have hX : ∀ b i, jX (jsX (chadd h (B + 2) (s 0) k v) (r + 2) k v) b i = if b = r + 2 ∧ i = k then v else if b = B + 5 ∧ i = m then v else if b = B + 4 ∧ i = m then (k : Int) else if b = B + 3 ∧ i = m then s 0 else jX h b i := fun b i => by
    unfold chadd
    rw [hcount, Int.toNat_natCast, jX_sX, jX_sI, jX_sX, jX_sX, jX_sX, b6, b7, b8]
  have hI : ∀ b i, jI (jsX (chadd h (B + 2) (s 0) k v) (r + 2) k v) b i = if b = B + 2 ∧ i = 0 then (m : Int) + 1 else jI h b i := fun b i => by
    unfold chadd
    rw [hcount, jI_sX, jI_sI]
    rfl
  have hYY : jY (jsX (chadd h (B + 2) (s 0) k v) (r + 2) k v) = jY h := rfl
  refine ⟨?_, ?_, ?_⟩
  · refine ⟨rfl, rfl, rfl, fun b hb => ⟨funext fun i => ?_, funext fun i => ?_, rfl⟩⟩
    · rw [hI, if_neg (by omega)]
    · rw [hX, if_neg (by omega), if_neg (by omega), if_neg (by omega), if_neg (by omega)]
  · exact br
  · have elo : ∀ t, t < 11 → gch (up s (5 + w) v) w v t = up s (5 + w) v t := fun t ht => by rw [g0, if_neg (by omega), if_neg (by omega), if_neg (by omega), if_neg (by omega)]
    refine ⟨?_, ?_, ?_, ?_, ?_, fun k' hk' hw' => ?_, fun i hi => ?_⟩
    · rw [hI, if_neg (by omega), elo 0 (by omega), p0]; exact (if_neg (by omega)).symm
    · rw [hI, if_neg (by omega), elo 1 (by omega), p1]; exact (if_neg (by omega)).symm
    · rw [hI, if_neg (by omega), elo 2 (by omega), p2]; exact (if_neg (by omega)).symm
    · rw [hI, if_neg (by omega), elo 4 (by omega), p3]; exact (if_neg (by omega)).symm
    · rw [hI, if_neg (by omega), elo 3 (by omega), p4]; exact (if_neg (by omega)).symm
    · have hw9 := hN.2 k' hk' hw'
      have hwr : wr node k' < 6 := hN.lt hk' hw'
      rw [elo _ (by omega)]
      by_cases q : k' = k
      · subst q
        rw [hX, if_pos ⟨rfl, rfl⟩]
        have : wr node k' = w := by unfold wr; rw [hw]; omega
        rw [this]
        exact (if_pos rfl).symm
      · rw [hX, if_neg (by omega), if_neg (by omega), if_neg (by omega), if_neg (by omega), p5 k' hk' hw']
        have : wr node k' ≠ w := fun z => q (hinj k' hk' hw' (by unfold wr at z; omega))
        exact (if_neg (by omega)).symm
    · rw [elo 3 (by omega), u3] at hi
      rw [hYY]
      by_cases q : i = l
      · subst q
        rw [← hjl, hB, hjl]
        obtain ⟨c0, c1, c2, c3, c4⟩ := hlast
        refine ⟨?_, ?_, ?_, fun k' hk' hw' => ?_, fun t ht => ?_⟩
        · rw [hI, if_neg (by omega), c0, g0, if_neg (by omega), if_neg (by omega), if_neg (by omega), if_neg (by omega)]; exact (if_neg (by omega)).symm
        · rw [hI, if_neg (by omega), c1, g0, if_neg (by omega), if_neg (by omega), if_neg (by omega), if_neg (by omega)]; exact (if_neg (by omega)).symm
        · rw [hI, if_pos ⟨rfl, rfl⟩, g0, if_neg (by omega), if_neg (by omega), if_neg (by omega), if_pos rfl]
        · have hwr : wr node k' < 6 := hN.lt hk' hw'
          rw [hX, if_neg (by omega), if_neg (by omega), if_neg (by omega), if_neg (by omega), c3 k' hk' hw', g0, if_neg (by omega), if_neg (by omega), if_neg (by omega), if_neg (by omega)]; exact (if_neg (by omega)).symm
        · rw [g0, if_neg (by omega), if_neg (by omega), if_neg (by omega), if_pos rfl] at ht
          by_cases q2 : t = m
          · subst q2
            refine ⟨?_, ?_, k, hk, hkw, ?_, ?_⟩
            · rw [hX, if_neg (by omega), if_neg (by omega), if_neg (by omega), if_pos ⟨rfl, rfl⟩, g0, if_pos rfl]
            · rw [hX, if_neg (by omega), if_pos ⟨rfl, rfl⟩, g0, if_neg (by omega), if_neg (by omega), if_pos rfl]
            · rw [hX, if_neg (by omega), if_neg (by omega), if_pos ⟨rfl, rfl⟩]
            · rw [g0, if_neg (by omega), if_pos rfl, hw]
          · obtain ⟨d1, d2, k2, d3, d4, d5, d6⟩ := c4 t (by omega)
            refine ⟨?_, ?_, k2, d3, d4, ?_, ?_⟩
            · rw [hX, if_neg (by omega), if_neg (by omega), if_neg (by omega), if_neg (by omega), d1, g0, if_neg (by omega), if_neg (by omega), if_neg (by omega), if_neg (by omega)]; exact (if_neg (by omega)).symm
            · rw [hX, if_neg (by omega), if_neg (by omega), if_neg (by omega), if_neg (by omega), d2, g0, if_neg (by omega), if_neg (by omega), if_neg (by omega), if_neg (by omega)]; exact (if_neg (by omega)).symm
            · rw [hX, if_neg (by omega), if_neg (by omega), if_neg (by omega), if_neg (by omega)]; exact d5
            · rw [d6, g0, if_neg (by omega), if_neg (by omega), if_neg (by omega), if_neg (by omega)]; exact (if_neg (by omega)).symm
      · obtain ⟨j2, hj2, ej2⟩ := br.1 i (by omega)
        have hne : j2 ≠ j := fun z => q (by
          have := br.2 i (s 3 - 1).toNat (by omega) (by omega) (by rw [hB, ej2, ej, z])
          omega)
        have hb := p6 i (by omega)
        have hsb := i10 i (by omega)
        have hb2 := hb.cong (s' := gch (up s (5 + w) v) w v) (o' := 11 + 33 * i) hN hsb.2.2.2.2.1 (fun t ht => by
          rw [g0, if_neg (by omega), if_neg (by omega), if_neg (by omega), if_neg (by omega)]; exact if_neg (by omega))
        rw [ej2] at hb2 ⊢
        exact hb2.eq (funext fun i => by rw [hI, if_neg (by omega)]) (funext fun i => by rw [hI, if_neg (by omega)]) (funext fun i => by rw [hX, if_neg (by omega), if_neg (by omega), if_neg (by omega), if_neg (by omega)]) (funext fun i => by rw [hX, if_neg (by omega), if_neg (by omega), if_neg (by omega), if_neg (by omega)]) (funext fun i => by rw [hX, if_neg (by omega), if_neg (by omega), if_neg (by omega), if_neg (by omega)]) (funext fun i => by rw [hX, if_neg (by omega), if_neg (by omega), if_neg (by omega), if_neg (by omega)])
end KI
