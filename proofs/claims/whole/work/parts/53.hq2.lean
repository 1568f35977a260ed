/-! ===== SignalWaves: edges, delay, ticks, holds ===== -/
section KZ
variable {h g : jH} {node wi sn code cm s past : Nat → Int} {n nw nd ns u D : Nat} {K : Int} {l : Nat → Nat → Int} {L cnt : Nat} {T : Nat → Nat} {P : Nat → Prop}
/-- how many of the first times are so -/
noncomputable def ctc (p : Nat → Prop) : Nat → Nat
  | 0 => 0
  | t + 1 => ctc p t + @ite Nat (p t) (Classical.propDecidable _) 1 0
theorem ctc_p {t : Nat} (h1 : P t) : ctc P (t + 1) = ctc P t + 1 := by
  conv => lhs; unfold ctc
  rw [if_pos h1]
theorem ctc_n {t : Nat} (h1 : ¬ P t) : ctc P (t + 1) = ctc P t := by
  conv => lhs; unfold ctc
  rw [if_neg h1]
  exact Nat.add_zero _
theorem ctc_r {a : Nat} : ∀ b : Nat, a ≤ b → (∀ e, a ≤ e → e < b → ¬ P e) → ctc P b = ctc P a
  | 0, hb, _ => by rw [show a = 0 by omega]
  | b + 1, hb, he => by
    by_cases q : a = b + 1
    · rw [q]
    · rw [ctc_n (he b (by omega) (by omega))]
      exact ctc_r b (by omega) (fun e h1 h2 => he e h1 (by omega))
theorem ctc_le : ∀ b : Nat, ctc P b ≤ b
  | 0 => Nat.le_refl _
  | b + 1 => by
    have := ctc_le b
    by_cases q : P b
    · rw [ctc_p q]; omega
    · rw [ctc_n q]; omega
/-- between two moments -/
theorem HL.gap (hH : HL g L cnt T l n) (hP : ∀ e, e ≤ L → P e → ∃ j, j < cnt ∧ T j = e) {i : Nat} (hi : i < cnt) : ∀ e, T i < e → e < aft cnt L T i → ¬ P e := by
  intro e e1 e2 hp
  have ha := hH.aftb hi
  obtain ⟨j, j1, j2⟩ := hP e (by omega) hp
  obtain ⟨h1, h2, h3, h4, h5, h6, h7, h8, h9, h10⟩ := id hH
  by_cases q : i < j
  · have e3 : aft cnt L T i = T (i + 1) := if_pos (by omega)
    by_cases w : j = i + 1
    · subst w; omega
    · have := h8 (i + 1) j (by omega) j1; omega
  · by_cases w : j = i
    · subst w; omega
    · have := h8 j i (by omega) hi; omega
theorem HL.ctp (hH : HL g L cnt T l n) (hP : ∀ e, e ≤ L → P e → ∃ j, j < cnt ∧ T j = e) {i : Nat} (hi : i < cnt) (hp : P (T i)) : ctc P (aft cnt L T i) = ctc P (T i) + 1 := by
  have ha := hH.aftb hi
  rw [ctc_r (a := T i + 1) _ (by omega) (fun e h1 h2 => hH.gap hP hi e (by omega) h2), ctc_p hp]
theorem HL.ctn (hH : HL g L cnt T l n) (hP : ∀ e, e ≤ L → P e → ∃ j, j < cnt ∧ T j = e) {i : Nat} (hi : i < cnt) (hp : ¬ P (T i)) : ctc P (aft cnt L T i) = ctc P (T i) := by
  have ha := hH.aftb hi
  rw [ctc_r (a := T i + 1) _ (by omega) (fun e h1 h2 => hH.gap hP hi e (by omega) h2), ctc_n hp]
def oke (n : Nat) (s : Nat → Int) (a kind fr to : Int) : Prop := (0 ≤ a ∧ a < n) ∧ (0 ≤ kind ∧ kind ≤ 2) ∧ (0 ≤ fr ∧ fr ≤ s 0) ∧ (fr ≤ to ∧ to ≤ s 0)
def egP (l : Nat → Int) (kind fr to : Int) (e : Nat) : Prop := fr ≤ (e : Int) ∧ (e : Int) ≤ to ∧ ed l kind e
theorem eX8_edges {d : Nat} {a kind fr to : Int} (hI : IV h D node n nw nd wi sn ns code cm s past u K) :
    Ex MX8_edges (d + 4) [.inr 2, .inl a, .inl kind, .inl fr, .inl to] h 0 0 (fun v g => XF h g ∧ ∃ z, v = some (.inl z) ∧ QR (oke n s a kind fr to) (fun z => z = (ctc (egP (nl node code cm s n a.toNat) kind fr to) ((s 0).toNat + 1) : Int)) z) := by
  have hx := hI.x
  have hn12 := hI.dg.1
  refine Ex_of_V tX8_edges (Nat.le_of_ble_eq_true rfl) ?_
  apply bX8_edges_0
  case q1 => rw [hI.n0]; intro q; exact ⟨XF.rf, _, rfl, Or.inl ⟨fun z => q z.1, rfl⟩⟩
  case q2 => intro _ q; exact ⟨XF.rf, _, rfl, Or.inl ⟨fun z => q z.2.1, rfl⟩⟩
  case q3 => rw [hI.t0]; intro _ _ q; exact ⟨XF.rf, _, rfl, Or.inl ⟨fun z => q z.2.2.1, rfl⟩⟩
  case q4 => rw [hI.t0]; intro _ _ q q2; exact ⟨XF.rf, _, rfl, Or.inl ⟨fun z => q2 (by have := z.2.2.2; omega), rfl⟩⟩
  case q5 => intro _ _ _ _ q; exact ⟨XF.rf, _, rfl, Or.inl ⟨fun z => q z.2.2.2.1, rfl⟩⟩
  case e1 =>
    rw [hI.n0, hI.t0]
    intro o1 o2 o3 o4 o5
    have ok : oke n s a kind fr to := ⟨o1, o2, o3, o5, o4.2⟩
    refine Ex.mono (eX8_hist hI) ?_
    rintro v g ⟨rfl, xf, hJ, cnt, T, hL⟩
    have hy := hJ.x
    apply bX8_edges_55
    obtain ⟨h1, h2, h3, h4, h5, h6, h7, h8, h9, h10⟩ := id hL
    have hc : jI g (jP g 2 11) 0 = (cnt : Int) := by rw [hy.p11]; exact h1
    have hP : ∀ e, e ≤ (s 0).toNat → egP (nl node code cm s n a.toNat) kind fr to e → ∃ j, j < cnt ∧ T j = e := fun e e1 e2 => hL.at (by omega) e1 e2.2.2
    have key : ∀ (m i b : Nat) (u7 : Option jA), i + m = cnt → (i < cnt → b = T i) → (i = cnt → b = (s 0).toNat + 1) → V MX8_edges (d + 4) 61 [some (.inr 2), some (.inl a), some (.inl kind), some (.inl fr), some (.inl to), some (.inl (ctc (egP (nl node code cm s n a.toNat) kind fr to) b : Int)), some (.inl (i : Int)), u7] [] g 0 0 (fun v g => XF h g ∧ ∃ z, v = some (.inl z) ∧ QR (oke n s a kind fr to) (fun z => z = (ctc (egP (nl node code cm s n a.toNat) kind fr to) ((s 0).toNat + 1) : Int)) z) := by
      intro m
      induction m with
      | zero =>
        intro i b u7 hi hb hb2
        obtain rfl : i = cnt := by omega
        apply bX8_edges_61
        case q1 => intro _; exact ⟨xf, _, rfl, Or.inr ⟨ok, by rw [hb2 rfl]⟩⟩
        all_goals first
          | exact hy.s2
          | exact hJ.hk
          | (rw [hJ.ht]; done)
          | (intro q; exact absurd (by rw [hc]; exact Int.le_refl _) q)
      | succ m ih =>
        intro i b u7 hi hb hb2
        obtain rfl := hb (by omega)
        have hT : jX g (jP g (jP g 2 11) 2) ((((i : Nat) : Int)).toNat) = (T i : Int) := by rw [hy.p11, hy.hk.2.1, Int.toNat_natCast]; exact h7 i (by omega)
        have hTL := h9 i (by omega)
        have hcl := ctc_le (P := egP (nl node code cm s n a.toNat) kind fr to) (T i)
        have hj1 : (i : Int) + 1 = ((i + 1 : Nat) : Int) := by omega
        have no : ∀ u7, ¬ egP (nl node code cm s n a.toNat) kind fr to (T i) → V MX8_edges (d + 4) 61 [some (.inr 2), some (.inl a), some (.inl kind), some (.inl fr), some (.inl to), some (.inl (ctc (egP (nl node code cm s n a.toNat) kind fr to) (T i) : Int)), some (.inl ((i + 1 : Nat) : Int)), u7] [] g 0 0 (fun v g => XF h g ∧ ∃ z, v = some (.inl z) ∧ QR (oke n s a kind fr to) (fun z => z = (ctc (egP (nl node code cm s n a.toNat) kind fr to) ((s 0).toNat + 1) : Int)) z) := by
          intro u7 hni
          rw [← hL.ctn hP (by omega) hni]
          exact ih (i + 1) _ u7 (by omega) (fun q => if_pos q) (fun q => if_neg (by omega))
        apply bX8_edges_61
        case q1 => rw [hc]; intro q; omega
        case r1 => intros; exact ⟨by omega, by omega⟩
        case r2 => intros; exact ⟨by omega, by omega⟩
        case k1 => rw [hT]; intro _ q; rw [hj1]; exact no _ (fun z => by have := z.1; omega)
        case k2 => rw [hT]; intro _ _ q; rw [hj1]; exact no _ (fun z => by have := z.2.1; omega)
        case e1 =>
          rw [hT]
          intro _ q1 q2
          rw [hy.p11, show a = ((a.toNat : Nat) : Int) by omega]
          refine Ex.mono (eX3_isEdge hy.hk hy.hy hL hn12 (by omega) (by omega)) ?_
          rintro v g2 ⟨⟨z, rfl, z1, z2⟩, rfl⟩
          show V MX8_edges (d + 4) 109 _ [.inl z] g2 0 0 _
          rw [show ((a.toNat : Nat) : Int) = a by omega]
          apply bX8_edges_109
          case r1 => intros; exact ⟨by omega, by omega⟩
          case r2 => intros; exact ⟨by omega, by omega⟩
          case r3 => intros; exact ⟨by omega, by omega⟩
          case k1 => intro z0; rw [hj1]; exact no _ (fun w => by have := z2.mpr w.2.2; omega)
          case k2 =>
            intro z0
            have hp : egP (nl node code cm s n a.toNat) kind fr to (T i) := ⟨by omega, by omega, z2.mp (by omega)⟩
            rw [hj1, show (ctc (egP (nl node code cm s n a.toNat) kind fr to) (T i) : Int) + 1 = (ctc (egP (nl node code cm s n a.toNat) kind fr to) (aft cnt (s 0).toNat T i) : Int) by rw [hL.ctp hP (by omega) hp]; omega]
            exact ih (i + 1) _ _ (by omega) (fun q => if_pos q) (fun q => if_neg (by omega))
        all_goals first
          | exact hy.s2
          | exact hJ.hk
          | (rw [hJ.ht]; done)
          | (intros; omega)
          | (intros; rw [hJ.ht]; refine Int.lt_of_le_of_lt (b := 60) ?_ (by decide); omega)
    exact key cnt 0 0 _ (by omega) (fun _ => h6.symm) (fun q => by omega)
  all_goals first
    | exact hx.s2
    | exact hI.dk
    | exact hI.rk
    | exact hI.hk
def okd (n : Nat) (a b : Int) : Prop := (0 ≤ a ∧ a < n) ∧ (0 ≤ b ∧ b < n)
theorem eX8_delay {d : Nat} {a b : Int} (hI : IV h D node n nw nd wi sn ns code cm s past u K) :
    Ex MX8_delay (d + 4) [.inr 2, .inl a, .inl b] h 0 0 (fun v g => XF h g ∧ ∃ z, v = some (.inl z) ∧ QR (okd n a b) (FM (fun e => e ≤ 50 ∧ flw (nl node code cm s n a.toNat) (nl node code cm s n b.toNat) (s 0).toNat e)) z) := by
  have hx := hI.x
  have hn12 := hI.dg.1
  refine Ex_of_V tX8_delay (Nat.le_of_ble_eq_true rfl) ?_
  apply bX8_delay_0
  case q1 => rw [hI.n0]; intro q; exact ⟨XF.rf, _, rfl, Or.inl ⟨fun z => q z.1, rfl⟩⟩
  case q2 => rw [hI.n0]; intro _ q; exact ⟨XF.rf, _, rfl, Or.inl ⟨fun z => q z.2, rfl⟩⟩
  case e1 =>
    rw [hI.n0]
    intro o1 o2
    have ok : okd n a b := ⟨o1, o2⟩
    refine Ex.mono (eX8_hist hI) ?_
    rintro v g ⟨rfl, xf, hJ, cnt, T, hL⟩
    have hy := hJ.x
    apply bX8_delay_33
    have key : ∀ (m e : Nat), e + m = 51 → (∀ j, j < e → ¬ flw (nl node code cm s n a.toNat) (nl node code cm s n b.toNat) (s 0).toNat j) → V MX8_delay (d + 4) 35 [some (.inr 2), some (.inl a), some (.inl b), some (.inl (e : Int))] [] g 0 0 (fun v g => XF h g ∧ ∃ z, v = some (.inl z) ∧ QR (okd n a b) (FM (fun e => e ≤ 50 ∧ flw (nl node code cm s n a.toNat) (nl node code cm s n b.toNat) (s 0).toNat e)) z) := by
      intro m
      induction m with
      | zero =>
        intro e he hno
        obtain rfl : e = 51 := by omega
        apply bX8_delay_35
        case q1 => intro _; exact ⟨xf, _, rfl, Or.inr ⟨ok, Or.inr ⟨rfl, fun e he => hno e (by omega) he.2⟩⟩⟩
        all_goals first
          | exact hy.s2
          | exact hJ.hk
          | (intro q; exact absurd (by decide) q)
      | succ m ih =>
        intro e he hno
        apply bX8_delay_35
        case q1 => intro q; omega
        case e1 =>
          intro _
          rw [hy.p11, show a = ((a.toNat : Nat) : Int) by omega, show b = ((b.toNat : Nat) : Int) by omega]
          refine Ex.mono (eX3_follows hy.hk hy.hy hL hn12 (by omega) (by omega) (by omega)) ?_
          rintro v g2 ⟨⟨z, rfl, z1, z2⟩, rfl⟩
          show V MX8_delay (d + 4) 51 _ [.inl z] g2 0 0 _
          rw [show ((a.toNat : Nat) : Int) = a by omega, show ((b.toNat : Nat) : Int) = b by omega]
          apply bX8_delay_51
          case r1 => intros; exact ⟨by omega, by omega⟩
          case k1 =>
            intro z0
            rw [show (e : Int) + 1 = ((e + 1 : Nat) : Int) by omega]
            refine ih (e + 1) (by omega) (fun j hj => ?_)
            by_cases w : j = e
            · subst w; intro y; have := z2.mpr y; omega
            · exact hno j (by omega)
          case q1 =>
            intro z0
            exact ⟨xf, _, rfl, Or.inr ⟨ok, Or.inl ⟨e, rfl, ⟨by omega, z2.mp (by omega)⟩, fun j hj y => hno j hj y.2⟩⟩⟩
        all_goals first
          | exact hy.s2
          | exact hJ.hk
    exact key 51 0 (by omega) (fun j hj => absurd hj (Nat.not_lt_zero _))
  all_goals first
    | exact hx.s2
    | exact hI.dk
    | exact hI.rk
    | exact hI.hk
end KZ
