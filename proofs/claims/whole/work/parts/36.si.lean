/-! ===== the row of numbers stays in its bounds ===== -/
section KG
variable {s s' node : Nat → Int} {n : Nat} {K : Int}
theorem SB.cong {i i' : Nat} (hB : SB s node n i) (h0 : s' 0 = s 0) (he : ∀ t, t < 33 → s' (11 + 33 * i' + t) = s (11 + 33 * i + t))
    (hx : ((i' + 1 : Nat) : Int) < s' 3 → (((i + 1 : Nat) : Int) < s 3 ∧ s' (11 + 33 * (i' + 1)) = s (11 + 33 * (i + 1))) ∨ s' (11 + 33 * (i' + 1)) = s 0) : SB s' node n i' := by
  obtain ⟨b0, b1, b2, b3, b4, b5, b6, b7⟩ := hB
  have e0 := he 0 (by omega)
  rw [Nat.add_zero, Nat.add_zero] at e0
  have e1 := he 1 (by omega)
  have e2 := he 2 (by omega)
  refine ⟨by omega, by omega, by rw [e1, e0, h0]; exact b2, by omega, by omega, fun w hw => ?_, fun j hj => ?_, fun hi => ?_⟩
  · have := he (3 + w) (by omega)
    simp only [← Nat.add_assoc] at this
    rw [this]
    exact b5 w hw
  · rw [e2] at hj
    obtain ⟨c0, c1, c2, c3, c4, c5, k, c6, c7, c8⟩ := b6 j hj
    have a1 := he (9 + 3 * j) (by omega)
    have a2 := he (9 + 3 * j + 1) (by omega)
    have a3 := he (9 + 3 * j + 2) (by omega)
    simp only [← Nat.add_assoc] at a1 a2 a3
    refine ⟨by omega, by omega, by omega, by omega, fun hj1 => ?_, fun hi => ?_, k, c6, c7, by rw [a2]; exact c8⟩
    · rw [e2] at hj1
      have a4 := he (9 + 3 * (j + 1)) (by omega)
      simp only [← Nat.add_assoc] at a4
      rw [a1, a4]
      exact c4 hj1
    · rcases hx hi with ⟨x1, x2⟩ | x
      · rw [a1, x2]; exact c5 x1
      · rw [a1, x]; exact c1
  · rcases hx hi with ⟨x1, x2⟩ | x
    · rw [e0, x2]; exact b7 x1
    · rw [e0, x]; exact b1
theorem SI.grow (hs : SI s node n K) {K' : Int} (hK : K ≤ K') : SI s node n K' := by
  obtain ⟨i0, i1, i2, i3, i4, i5, i6, i7, i8, i9, i10⟩ := hs
  exact ⟨i0, i1, i2, i3, i4, i5, i6, i7, by omega, i9, i10⟩
theorem SI_time (hs : SI s node n K) {k : Int} (h0 : 0 ≤ k) (h1 : s 0 + k ≤ 999) : SI (up s 0 (s 0 + k)) node n K := by
  obtain ⟨i0, i1, i2, i3, i4, i5, i6, i7, i8, i9, i10⟩ := hs
  have e : ∀ j, j ≠ 0 → up s 0 (s 0 + k) j = s j := fun j hj => if_neg hj
  have e0 : up s 0 (s 0 + k) 0 = s 0 + k := if_pos rfl
  refine ⟨by rw [e0]; omega, by rw [e0]; omega, i2, i3, i4, i5, i6, i7, i8, fun w hw => ?_, fun i hi => ?_⟩
  · rw [e _ (by omega)]; exact i9 w hw
  · obtain ⟨b0, b1, b2, b3, b4, b5, b6, b7⟩ := i10 i hi
    have f : ∀ t, up s 0 (s 0 + k) (11 + 33 * i + t) = s (11 + 33 * i + t) := fun t => e _ (by omega)
    have f0 : up s 0 (s 0 + k) (11 + 33 * i) = s (11 + 33 * i) := e _ (by omega)
    refine ⟨by rw [f0]; exact b0, by rw [f0, e0]; omega, ?_, by rw [f]; exact b3, by rw [f]; exact b4, fun w hw => ?_, fun j hj => ?_, fun hi => ?_⟩
    · rw [f, f0, e0]
      rcases b2 with z | ⟨z1, z2⟩
      · exact Or.inl z
      · exact Or.inr ⟨z1, by omega⟩
    · rw [e _ (by omega)]; exact b5 w hw
    · rw [f] at hj
      obtain ⟨c0, c1, c2, c3, c4, c5, c6⟩ := b6 j hj
      rw [f0, e0, e _ (by omega), e _ (by omega), e _ (by omega), e _ (by omega), e _ (by omega), e _ (by omega)]
      exact ⟨c0, by omega, c2, c3, c4, c5, c6⟩
    · rw [f0, e _ (by omega)]; exact b7 hi
theorem SI_size (hs : SI s node n K) {v : Int} (h0 : 1 ≤ v) (h1 : v ≤ 8) : SI (up s 2 v) node n K := by
  obtain ⟨i0, i1, i2, i3, i4, i5, i6, i7, i8, i9, i10⟩ := hs
  have e : ∀ j, j ≠ 2 → up s 2 v j = s j := fun j hj => if_neg hj
  refine ⟨i0, i1, i2, h0, h1, i5, i6, i7, i8, fun w hw => ?_, fun i hi => ?_⟩
  · rw [e _ (by omega)]; exact i9 w hw
  · exact (i10 i hi).cong rfl (fun t ht => e _ (by omega)) (fun q => Or.inl ⟨q, e _ (by omega)⟩)
theorem SI_val (hs : SI s node n K) {w0 : Nat} {v : Int} (hw0 : w0 < 6) (h0 : 0 ≤ v) (h1 : v ≤ 255) : SI (up s (5 + w0) v) node n K := by
  obtain ⟨i0, i1, i2, i3, i4, i5, i6, i7, i8, i9, i10⟩ := hs
  have e : ∀ j, j ≠ 5 + w0 → up s (5 + w0) v j = s j := fun j hj => if_neg hj
  refine ⟨by rw [e _ (by omega)]; exact i0, by rw [e _ (by omega)]; exact i1, by rw [e _ (by omega)]; exact i2, by rw [e _ (by omega)]; exact i3, by rw [e _ (by omega)]; exact i4, by rw [e _ (by omega)]; exact i5, by rw [e _ (by omega)]; exact i6, by rw [e _ (by omega)]; exact i7, by rw [e _ (by omega)]; exact i8, fun w hw => ?_, fun i hi => ?_⟩
  · by_cases q : w = w0
    · subst q; rw [show up s (5 + w) v (5 + w) = v from if_pos rfl]; exact ⟨h0, h1⟩
    · rw [e _ (by omega)]; exact i9 w hw
  · rw [e _ (by omega)] at hi
    exact (i10 i hi).cong (e _ (by omega)) (fun t ht => e _ (by omega)) (fun q => Or.inl ⟨by rw [e _ (by omega)] at q; exact q, e _ (by omega)⟩)
theorem bnw_lo {k : Nat} (h3 : k ≠ 3) (hk : k < 11 + 33 * (s 3).toNat ∨ 11 + 33 * (s 3).toNat + 9 ≤ k) : bnw s k = s k := by
  unfold bnw
  rw [if_neg h3, if_neg (by omega), if_neg (by omega), if_neg (by omega), if_neg (by omega)]
theorem bnw_3 : bnw s 3 = s 3 + 1 := if_pos rfl
theorem bnw_b : bnw s (11 + 33 * (s 3).toNat) = s 0 := by unfold bnw; rw [if_neg (by omega), if_pos rfl]
theorem bnw_e : bnw s (11 + 33 * (s 3).toNat + 1) = -9 := by unfold bnw; rw [if_neg (by omega), if_neg (by omega), if_pos rfl]
theorem bnw_m : bnw s (11 + 33 * (s 3).toNat + 2) = 0 := by unfold bnw; rw [if_neg (by omega), if_neg (by omega), if_neg (by omega), if_pos rfl]
theorem bnw_f {w : Nat} (hw : w < 6) : bnw s (11 + 33 * (s 3).toNat + 3 + w) = s (5 + w) := by
  unfold bnw
  rw [if_neg (by omega), if_neg (by omega), if_neg (by omega), if_neg (by omega), if_pos ⟨by omega, by omega⟩]
  congr 1
  omega
theorem SB_new (h0 : 0 ≤ s 0) (h3 : 0 ≤ s 3) (hv : ∀ w, w < 6 → 0 ≤ s (5 + w) ∧ s (5 + w) ≤ 255) : SB (bnw s) node n (s 3).toNat := by
  have e0 : bnw s 0 = s 0 := bnw_lo (by omega) (by omega)
  refine ⟨by rw [bnw_b]; exact h0, by rw [bnw_b, e0]; exact Int.le_refl _, Or.inl bnw_e, by rw [bnw_m]; exact Int.le_refl 0, by rw [bnw_m]; decide, fun w hw => by rw [bnw_f hw]; exact hv w hw, fun j hj => by rw [bnw_m] at hj; omega, fun hi => by rw [bnw_3] at hi; omega⟩
theorem SI_bnw (hs : SI s node n K) (h5 : s 3 ≤ 5) : SI (bnw s) node n K := by
  obtain ⟨i0, i1, i2, i3, i4, i5, i6, i7, i8, i9, i10⟩ := hs
  have e : ∀ k, k < 11 → k ≠ 3 → bnw s k = s k := fun k hk h3 => bnw_lo h3 (by omega)
  refine ⟨by rw [e 0 (by omega) (by omega)]; exact i0, by rw [e 0 (by omega) (by omega)]; exact i1, by rw [e 1 (by omega) (by omega)]; exact i2, by rw [e 2 (by omega) (by omega)]; exact i3, by rw [e 2 (by omega) (by omega)]; exact i4, by rw [bnw_3]; omega, by rw [bnw_3]; omega, by rw [e 4 (by omega) (by omega)]; exact i7, by rw [e 4 (by omega) (by omega)]; exact i8, fun w hw => by rw [e _ (by omega) (by omega)]; exact i9 w hw, fun i hi => ?_⟩
  rw [bnw_3] at hi
  by_cases q : i = (s 3).toNat
  · subst q; exact SB_new i0 (by omega) i9
  · refine (i10 i (by omega)).cong (e 0 (by omega) (by omega)) (fun t ht => bnw_lo (by omega) (by omega)) (fun hx => ?_)
    by_cases q2 : i + 1 = (s 3).toNat
    · right
      rw [show 11 + 33 * (i + 1) = 11 + 33 * (s 3).toNat by rw [q2]]
      exact bnw_b
    · left
      exact ⟨by omega, bnw_lo (by omega) (by omega)⟩
theorem bsh_at {k : Nat} (h1 : 11 ≤ k) (h2 : k < 176) : bsh s k = s (k + 33) := by
  unfold bsh
  rw [if_neg (by omega), if_neg (by omega), if_pos ⟨h1, h2⟩]
theorem bsh_lo {k : Nat} (h1 : k < 11) (h3 : k ≠ 3) (h4 : k ≠ 4) : bsh s k = s k := by
  unfold bsh
  rw [if_neg h3, if_neg h4, if_neg (by omega)]
theorem SI_bsh (hs : SI s node n K) (h6 : s 3 = 6) : SI (bsh s) node n (K + 1) := by
  obtain ⟨i0, i1, i2, i3, i4, i5, i6, i7, i8, i9, i10⟩ := hs
  have e3 : bsh s 3 = s 3 - 1 := if_pos rfl
  have e4 : bsh s 4 = s 4 + 1 := by unfold bsh; rw [if_neg (by omega), if_pos rfl]
  refine ⟨by rw [bsh_lo (by omega) (by omega) (by omega)]; exact i0, by rw [bsh_lo (by omega) (by omega) (by omega)]; exact i1, by rw [bsh_lo (by omega) (by omega) (by omega)]; exact i2, by rw [bsh_lo (by omega) (by omega) (by omega)]; exact i3, by rw [bsh_lo (by omega) (by omega) (by omega)]; exact i4, by omega, by omega, by omega, by omega, fun w hw => by rw [bsh_lo (by omega) (by omega) (by omega)]; exact i9 w hw, fun i hi => ?_⟩
  refine (i10 (i + 1) (by omega)).cong (bsh_lo (by omega) (by omega) (by omega)) (fun t ht => ?_) (fun hx => ?_)
  · rw [bsh_at (by omega) (by omega)]
    congr 1
    omega
  · left
    refine ⟨by omega, ?_⟩
    rw [bsh_at (by omega) (by omega)]
    congr 1
theorem SI_bbg (hs : SI s node n K) : SI (bbg s) node n (K + 1) := by
  unfold bbg
  by_cases q : s 3 = 6
  · rw [if_pos q]
    exact SI_bnw (SI_bsh hs q) (by rw [show bsh s 3 = s 3 - 1 from if_pos rfl]; omega)
  · rw [if_neg q]
    have h6 := hs.2.2.2.2.2.2.1
    exact (SI_bnw hs (by omega)).grow (by omega)
theorem SI_gch (hs : SI s node n K) (hm : s (lo s + 2) ≤ 7) {k : Nat} {w : Nat} {v : Int} (hk : k < n) (hkw : node (6 * k) = 0) (hw : node (6 * k + 5) = (w : Int)) (h0 : 0 ≤ v) (h1 : v ≤ 255) : SI (gch s w v) node n K := by
  obtain ⟨i0, i1, i2, i3, i4, i5, i6, i7, i8, i9, i10⟩ := hs
  obtain ⟨l, hl⟩ : ∃ l : Nat, s 3 = (l : Int) + 1 := ⟨(s 3 - 1).toNat, by omega⟩
  have hlo : lo s = 11 + 33 * l := by unfold lo; rw [hl]; omega
  have hlast := i10 l (by omega)
  obtain ⟨m, hm2⟩ : ∃ m : Nat, s (11 + 33 * l + 2) = m := ⟨(s (11 + 33 * l + 2)).toNat, by have := hlast.2.2.2.1; omega⟩
  have hm3 : (s (lo s + 2)).toNat = m := by rw [hlo, hm2]; omega
  have hm7 : m ≤ 7 := by rw [hlo, hm2] at hm; omega
  have g : ∀ j, gch s w v j = if j = 11 + 33 * l + 9 + 3 * m then s 0 else if j = 11 + 33 * l + 9 + 3 * m + 1 then (w : Int) else if j = 11 + 33 * l + 9 + 3 * m + 2 then v else if j = 11 + 33 * l + 2 then (m : Int) + 1 else s j := fun j => by
    unfold gch
    rw [hm3, hlo, hm2]
  generalize gch s w v = s2 at g
  have e : ∀ j, j < 11 + 33 * l + 2 → s2 j = s j := fun j hj => by rw [g, if_neg (by omega), if_neg (by omega), if_neg (by omega), if_neg (by omega)]
  refine ⟨by rw [e _ (by omega)]; exact i0, by rw [e _ (by omega)]; exact i1, by rw [e _ (by omega)]; exact i2, by rw [e _ (by omega)]; exact i3, by rw [e _ (by omega)]; exact i4, by rw [e _ (by omega)]; exact i5, by rw [e _ (by omega)]; exact i6, by rw [e _ (by omega)]; exact i7, by rw [e _ (by omega)]; exact i8, fun w9 hw9 => by rw [e _ (by omega)]; exact i9 w9 hw9, fun i hi => ?_⟩
  rw [e 3 (by omega)] at hi
  by_cases q : i = l
  · subst q
    obtain ⟨b0, b1, b2, b3, b4, b5, b6, b7⟩ := hlast
    have em : s2 (11 + 33 * i + 2) = (m : Int) + 1 := by rw [g, if_neg (by omega), if_neg (by omega), if_neg (by omega), if_pos rfl]
    have eo : ∀ t, t < 9 → t ≠ 2 → s2 (11 + 33 * i + t) = s (11 + 33 * i + t) := fun t h9 h2 => by rw [g, if_neg (by omega), if_neg (by omega), if_neg (by omega), if_neg (by omega)]
    have e00 := e 0 (by omega)
    refine ⟨by rw [e _ (by omega)]; exact b0, by rw [e _ (by omega), e00]; exact b1, ?_, by omega, by omega, fun w9 hw9 => ?_, fun j hj => ?_, fun hi2 => ?_⟩
    · rw [eo 1 (by omega) (by omega), e _ (by omega), e00]; exact b2
    · have := eo (3 + w9) (by omega) (by omega)
      simp only [← Nat.add_assoc] at this
      rw [this]
      exact b5 w9 hw9
    · rw [em] at hj
      rw [e (11 + 33 * i) (by omega), e00]
      have hx3 : ¬ ((i + 1 : Nat) : Int) < s2 3 := by rw [e 3 (by omega)]; omega
      by_cases q2 : j = m
      · subst q2
        have a0 : s2 (11 + 33 * i + 9 + 3 * j) = s 0 := by rw [g, if_pos rfl]
        have a1 : s2 (11 + 33 * i + 9 + 3 * j + 1) = (w : Int) := by rw [g, if_neg (by omega), if_pos rfl]
        have a2 : s2 (11 + 33 * i + 9 + 3 * j + 2) = v := by rw [g, if_neg (by omega), if_neg (by omega), if_pos rfl]
        rw [a0, a1, a2]
        exact ⟨b1, Int.le_refl _, h0, h1, fun z => by rw [em] at z; omega, fun z => absurd z hx3, k, hk, hkw, hw⟩
      · have hjm : j < m := by omega
        obtain ⟨c0, c1, c2, c3, c4, c5, c6⟩ := b6 j (by omega)
        have a : ∀ t, t < 3 → s2 (11 + 33 * i + 9 + 3 * j + t) = s (11 + 33 * i + 9 + 3 * j + t) := fun t ht => by rw [g, if_neg (by omega), if_neg (by omega), if_neg (by omega), if_neg (by omega)]
        have a0 := a 0 (by omega)
        rw [Nat.add_zero] at a0
        rw [a0, a 1 (by omega), a 2 (by omega)]
        refine ⟨c0, c1, c2, c3, fun z => ?_, fun z => absurd z hx3, c6⟩
        by_cases q3 : j + 1 = m
        · rw [show 11 + 33 * i + 9 + 3 * (j + 1) = 11 + 33 * i + 9 + 3 * m by omega, show s2 (11 + 33 * i + 9 + 3 * m) = s 0 by rw [g, if_pos rfl]]
          exact c1
        · rw [show s2 (11 + 33 * i + 9 + 3 * (j + 1)) = s (11 + 33 * i + 9 + 3 * (j + 1)) by rw [g, if_neg (by omega), if_neg (by omega), if_neg (by omega), if_neg (by omega)]]
          exact c4 (by omega)
    · rw [e 3 (by omega)] at hi2; omega
  · refine (i10 i hi).cong (e 0 (by omega)) (fun t ht => e _ (by omega)) (fun hx => Or.inl ⟨?_, e _ (by omega)⟩)
    rw [e 3 (by omega)] at hx
    exact hx
theorem SI_gv (hs : SI s node n K) {k : Nat} {w : Nat} {v : Int} (hk : k < n) (hkw : node (6 * k) = 0) (hw : node (6 * k + 5) = (w : Int)) (hw6 : w < 6) (h0 : 0 ≤ v) (h1 : v ≤ 255) : SI (gv s w v) node n (K + 1) := by
  unfold gv
  split
  · exact (SI_val hs hw6 h0 h1).grow (by omega)
  · have hl6 := hs.2.2.2.2.2.2.1
    have hl1 := hs.2.2.2.2.2.1
    have hsz := hs.2.2.2.2.1
    by_cases q : s 2 ≤ s (lo s + 2)
    · rw [if_pos q]
      have h2 := SI_val (SI_bbg hs) hw6 h0 h1
      refine SI_gch h2 ?_ hk hkw hw h0 h1
      have key : ∀ z : Nat → Int, 1 ≤ z 3 + 1 → up (bnw z) (5 + w) v (lo (up (bnw z) (5 + w) v) + 2) = 0 := fun z hz => by
        have e3 : up (bnw z) (5 + w) v 3 = z 3 + 1 := by unfold up; rw [if_neg (by omega)]; exact bnw_3
        have el : lo (up (bnw z) (5 + w) v) = 11 + 33 * (z 3).toNat := by unfold lo; rw [e3, Int.add_sub_cancel]
        rw [el]
        unfold up
        rw [if_neg (by omega)]
        exact bnw_m
      unfold bbg
      by_cases q6 : s 3 = 6
      · rw [if_pos q6, key _ (by rw [show bsh s 3 = s 3 - 1 from if_pos rfl]; omega)]; decide
      · rw [if_neg q6, key _ (by omega)]; decide
    · rw [if_neg q]
      refine (SI_gch (SI_val hs hw6 h0 h1) ?_ hk hkw hw h0 h1).grow (by omega)
      have e3 : up s (5 + w) v 3 = s 3 := if_neg (by omega)
      have el : lo (up s (5 + w) v) = lo s := by unfold lo; rw [e3]
      have e9 : up s (5 + w) v (lo s + 2) = s (lo s + 2) := if_neg (by unfold lo; omega)
      rw [el, e9]
      omega
theorem SI_on (hs : SI s node n K) {v : Int} (hv : v = 0 ∨ v = 1) : SI (up s 1 v) node n K := by
  obtain ⟨i0, i1, i2, i3, i4, i5, i6, i7, i8, i9, i10⟩ := hs
  have e : ∀ j, j ≠ 1 → up s 1 v j = s j := fun j hj => if_neg hj
  refine ⟨i0, i1, hv, i3, i4, i5, i6, i7, i8, fun w hw => ?_, fun i hi => ?_⟩
  · rw [e _ (by omega)]; exact i9 w hw
  · exact (i10 i hi).cong rfl (fun t ht => e _ (by omega)) (fun q => Or.inl ⟨q, e _ (by omega)⟩)
theorem SI_dmp (hs : SI s node n K) {on : Int} : SI (dmp s on) node n (K + 1) := by
  unfold dmp
  split
  · have h1 := SI_on hs (v := 0) (Or.inl rfl)
    obtain ⟨i0, i1, i2, i3, i4, i5, i6, i7, i8, i9, i10⟩ := h1
    have hlo : 11 ≤ lo s := by unfold lo; omega
    obtain ⟨l, hl⟩ : ∃ l : Nat, s 3 = (l : Int) + 1 := ⟨(s 3 - 1).toNat, by have := hs.2.2.2.2.2.1; omega⟩
    have hlo2 : lo s = 11 + 33 * l := by unfold lo; rw [hl]; omega
    have et : up s 1 0 0 = s 0 := rfl
    generalize up s 1 0 = z at i0 i1 i2 i3 i4 i5 i6 i7 i8 i9 i10 et
    have e : ∀ j, j ≠ lo s + 1 → up z (lo s + 1) (s 0) j = z j := fun j hj => if_neg hj
    have e1 : up z (lo s + 1) (s 0) (lo s + 1) = s 0 := if_pos rfl
    refine ⟨by rw [e _ (by omega)]; exact i0, by rw [e _ (by omega)]; exact i1, by rw [e _ (by omega)]; exact i2, by rw [e _ (by omega)]; exact i3, by rw [e _ (by omega)]; exact i4, by rw [e _ (by omega)]; exact i5, by rw [e _ (by omega)]; exact i6, by rw [e _ (by omega)]; exact i7, by rw [e _ (by omega)]; omega, fun w hw => by rw [e _ (by omega)]; exact i9 w hw, fun i hi => ?_⟩
    rw [e _ (by omega)] at hi
    by_cases q : i = l
    · subst q
      rw [hlo2] at e e1 ⊢
      obtain ⟨b0, b1, b2, b3, b4, b5, b6, b7⟩ := i10 i hi
      refine ⟨by rw [e _ (by omega)]; exact b0, by rw [e _ (by omega), e _ (by omega)]; exact b1, ?_, by rw [e _ (by omega)]; exact b3, by rw [e _ (by omega)]; exact b4, fun w hw => by rw [e _ (by omega)]; exact b5 w hw, fun j hj => ?_, fun hi => ?_⟩
      · right
        rw [e1, e _ (by omega), e _ (by omega), et]
        exact ⟨by rw [← et]; exact b1, Int.le_refl _⟩
      · rw [e _ (by omega)] at hj
        obtain ⟨c0, c1, c2, c3, c4, c5, c6⟩ := b6 j hj
        rw [e _ (by omega), e _ (by omega), e _ (by omega), e _ (by omega), e _ (by omega), e _ (by omega), e _ (by omega), e _ (by omega), e _ (by omega)]
        exact ⟨c0, c1, c2, c3, c4, c5, c6⟩
      · rw [e _ (by omega)] at hi
        rw [e _ (by omega), e _ (by omega)]
        exact b7 hi
    · refine (i10 i hi).cong (e _ (by omega)) (fun t ht => e _ (by omega)) (fun hx => ?_)
      rw [e _ (by omega)] at hx
      exact Or.inl ⟨hx, e _ (by omega)⟩
  · exact SI_bbg (SI_on hs (Or.inr rfl))
/-- all as at first -/
def s00 : Nat → Int := bnw (fun k => if k = 1 then 1 else if k = 2 then 4 else 0)
theorem SI_0 (hK : 0 ≤ K) : SI s00 node n K := by
  have e : ∀ k, k < 11 → k ≠ 3 → s00 k = if k = 1 then 1 else if k = 2 then 4 else 0 := fun k hk h3 => bnw_lo h3 (by left; show k < 11 + 33 * 0; omega)
  have e3 : s00 3 = 1 := rfl
  refine ⟨by rw [e 0 (by omega) (by omega)]; decide, by rw [e 0 (by omega) (by omega)]; decide, by rw [e 1 (by omega) (by omega)]; decide, by rw [e 2 (by omega) (by omega)]; decide, by rw [e 2 (by omega) (by omega)]; decide, by rw [e3]; decide, by rw [e3]; decide, by rw [e 4 (by omega) (by omega)]; decide, by rw [e 4 (by omega) (by omega)]; exact hK, fun w hw => ?_, fun i hi => ?_⟩
  · rw [e _ (by omega) (by omega), if_neg (by omega), if_neg (by omega)]; decide
  · rw [e3] at hi
    obtain rfl : i = 0 := by omega
    exact SB_new (s := fun k => if k = 1 then 1 else if k = 2 then 4 else 0) (by decide) (by decide) (fun w hw => by
      show 0 ≤ (if 5 + w = 1 then (1 : Int) else if 5 + w = 2 then 4 else 0) ∧ (if 5 + w = 1 then (1 : Int) else if 5 + w = 2 then 4 else 0) ≤ 255
      rw [if_neg (by omega), if_neg (by omega)]; decide)
end KG
