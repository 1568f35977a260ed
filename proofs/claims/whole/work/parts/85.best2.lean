/-! ===== both sides: packed, best ===== -/
section MF2
variable {h g : jH} {node wi sn code cm s past : Nat → Int} {n nw nd ns u D : Nat} {K : Int}
theorem eX8_packed {d : Nat} {x : Int} (hI : IV h D node n nw nd wi sn ns code cm s past u K) :
    Ex MX8_packed (d + 6) [.inr 2, .inl x] h 0 0 (fun v g => XF h g ∧ ∃ z, v = some (.inl z) ∧ QR (1 ≤ x ∧ x ≤ 8) (fun z => z = pkr s nw x.toNat (s 3).toNat) z) := by
  have hx := hI.x
  refine Ex_of_V tX8_packed (Nat.le_of_ble_eq_true rfl) ?_
  apply bX8_packed_0
  case q1 => intro q; exact ⟨XF.rf, _, rfl, Or.inl ⟨fun z => by omega, rfl⟩⟩
  case q2 => intro _ q; exact ⟨XF.rf, _, rfl, Or.inl ⟨fun z => by omega, rfl⟩⟩
  case e1 =>
    intro q1 q2
    have h9 := eX8_roomDivided (d := d) (sz := x.toNat) hI (by omega) (by omega)
    rw [show ((x.toNat : Nat) : Int) = x by omega] at h9
    refine Ex.mono h9 ?_
    rintro r g ⟨rfl, f⟩
    apply bX8_packed_20
    exact ⟨f.xf (fun a ha => by unfold gP at ha; unfold sc; omega), _, rfl, Or.inr ⟨⟨by omega, q2⟩, rfl⟩⟩
  all_goals exact hx.s2
theorem eX9_packed {d : Nat} {x : Int} (hI : IV h D node n nw nd wi sn ns code cm s past u K) :
    Ex MX9_packed (d + 4) [.inr 476, .inl x] h 0 0 (fun v g => XF h g ∧ ∃ z, v = some (.inl z) ∧ QR (1 ≤ x ∧ x ≤ 8) (fun z => z = pkr s nw x.toNat (s 3).toNat) z) := by
  have hM := hI.mk
  refine Ex_of_V tX9_packed (Nat.le_of_ble_eq_true rfl) ?_
  apply bX9_packed_0
  case q1 => intro q; exact ⟨XF.rf, _, rfl, Or.inl ⟨fun z => q z, rfl⟩⟩
  case e1 =>
    intro q1
    have h9 := eX9_packedBy (d := d) (sz := x.toNat) hM hI.es hI.si hI.m2w hI.nw6 (by omega) (by omega)
    rw [show ((x.toNat : Nat) : Int) = x by omega] at h9
    refine Ex.mono h9 ?_
    rintro r g ⟨rfl, f⟩
    apply bX9_packed_15
    exact ⟨f.xf (fun a ha => by unfold sc; omega) (fun k hk => by unfold sf; omega), _, rfl, Or.inr ⟨q1, rfl⟩⟩
  all_goals exact hM.x
theorem pair_packed {d d' : Nat} {a : Int} (hI : IE h K) : Ex MX8_packed (d + 6) [.inr 2, .inl a] h 0 0 (PR MX9_packed (d' + 4) [.inr 476, .inl a] K) := by
  obtain ⟨D, node, n, nw, nd, wi, sn, ns, code, cm, s, past, u, hI⟩ := hI
  exact pair_q eqS hI (eX8_packed hI) (fun g hJ => eX9_packed hJ)
def bst (P : Nat → Int) : Nat → Nat
  | 0 => 1
  | k + 1 => if P (k + 2) < P (bst P k) then k + 2 else bst P k
theorem bst_b {P : Nat → Int} : ∀ k, 1 ≤ bst P k ∧ bst P k ≤ k + 1
  | 0 => ⟨Nat.le_refl _, Nat.le_refl _⟩
  | k + 1 => by
    have := bst_b (P := P) k
    unfold bst
    split <;> omega
theorem bst_y {P : Nat → Int} {k : Nat} (q : P (k + 2) < P (bst P k)) : bst P (k + 1) = k + 2 := if_pos q
theorem bst_n {P : Nat → Int} {k : Nat} (q : ¬ P (k + 2) < P (bst P k)) : bst P (k + 1) = bst P k := if_neg q
theorem eX8_best {d : Nat} (hI : IV h D node n nw nd wi sn ns code cm s past u K) :
    Ex MX8_best (d + 6) [.inr 2] h 0 0 (fun v g => XF h g ∧ ∃ z, v = some (.inl z) ∧ QR True (fun z => z = (bst (fun k => pkr s nw k (s 3).toNat) 7 : Int)) z) := by
  have key : ∀ c i : Nat, i + c = 7 → ∀ (g : jH) u4, XF h g → V MX8_best (d + 6) 10 [some (.inr 2), some (.inl (bst (fun k => pkr s nw k (s 3).toNat) i : Int)), some (.inl (pkr s nw (bst (fun k => pkr s nw k (s 3).toNat) i) (s 3).toNat)), some (.inl ((i + 2 : Nat) : Int)), u4] [] g 0 0 (fun v g => XF h g ∧ ∃ z, v = some (.inl z) ∧ QR True (fun z => z = (bst (fun k => pkr s nw k (s 3).toNat) 7 : Int)) z) := by
    intro c
    induction c with
    | zero =>
      intro i hi g u4 xf
      have hJ := hI.xf xf
      apply bX8_best_10
      case q1 => intro _; rw [show i = 7 by omega]; exact ⟨xf, _, rfl, Or.inr ⟨trivial, rfl⟩⟩
      all_goals first
        | exact hJ.x.s2
        | (intro z; omega)
    | succ c ih =>
      intro i hi g u4 xf
      have hJ := hI.xf xf
      apply bX8_best_10
      case q1 => intro z; omega
      case e1 =>
        intro _
        refine Ex.mono (eX8_roomDivided (sz := i + 2) hJ (by omega) (by omega)) ?_
        rintro r g2 ⟨rfl, f⟩
        have xf2 := xf.trans (f.xf (fun a ha => by unfold gP at ha; unfold sc; omega))
        apply bX8_best_21
        case k1 =>
          intro z
          have h9 := ih (i + 1) (by omega) g2 (some (.inl (pkr s nw (i + 2) (s 3).toNat))) xf2
          rw [bst_n (k := i) (P := fun k => pkr s nw k (s 3).toNat) (Int.not_lt.mpr z), show ((i + 1 + 2 : Nat) : Int) = ((i + 2 : Nat) : Int) + 1 by omega] at h9
          exact h9
        case k2 =>
          intro z
          have h9 := ih (i + 1) (by omega) g2 (some (.inl (pkr s nw (i + 2) (s 3).toNat))) xf2
          rw [bst_y (k := i) (P := fun k => pkr s nw k (s 3).toNat) (Int.not_le.mp z), show ((i + 1 + 2 : Nat) : Int) = ((i + 2 : Nat) : Int) + 1 by omega] at h9
          exact h9
        all_goals (intros; exact ⟨by omega, by omega⟩)
      all_goals exact hJ.x.s2
  refine Ex_of_V tX8_best (Nat.le_of_ble_eq_true rfl) ?_
  apply bX8_best_0
  case e1 =>
    refine Ex.mono (eX8_roomDivided (sz := 1) hI (by omega) (by omega)) ?_
    rintro r g2 ⟨rfl, f⟩
    apply bX8_best_7
    exact key 7 0 (by omega) g2 _ (f.xf (fun a ha => by unfold gP at ha; unfold sc; omega))
  all_goals exact hI.x.s2
theorem eX9_best {d : Nat} (hI : IV h D node n nw nd wi sn ns code cm s past u K) :
    Ex MX9_best (d + 4) [.inr 476] h 0 0 (fun v g => XF h g ∧ ∃ z, v = some (.inl z) ∧ QR True (fun z => z = (bst (fun k => pkr s nw k (s 3).toNat) 7 : Int)) z) := by
  have by' : ∀ (g : jH) (k : Nat), XF h g → 1 ≤ k → k ≤ 8 → Ex MX9_packedBy (d + 3) [.inr 476, .inl (k : Int)] g 0 0 (fun r g2 => r = some (.inl (pkr s nw k (s 3).toNat)) ∧ XF h g2) := by
    intro g k xf h1 h8
    have hJ := hI.xf xf
    refine Ex.mono (eX9_packedBy (sz := k) hJ.mk hJ.es hJ.si hJ.m2w hJ.nw6 h1 h8) ?_
    rintro r g2 ⟨rfl, f⟩
    exact ⟨rfl, xf.trans (f.xf (fun a ha => by unfold sc; omega) (fun k hk => by unfold sf; omega))⟩
  have key : ∀ c i : Nat, i + c = 7 → ∀ (g : jH), XF h g → V MX9_best (d + 4) 4 [some (.inr 476), some (.inl (bst (fun k => pkr s nw k (s 3).toNat) i : Int)), some (.inl ((i + 2 : Nat) : Int))] [] g 0 0 (fun v g => XF h g ∧ ∃ z, v = some (.inl z) ∧ QR True (fun z => z = (bst (fun k => pkr s nw k (s 3).toNat) 7 : Int)) z) := by
    intro c
    induction c with
    | zero =>
      intro i hi g xf
      apply bX9_best_4
      case q1 => intro _; rw [show i = 7 by omega]; exact ⟨xf, _, rfl, Or.inr ⟨trivial, rfl⟩⟩
      all_goals first
        | exact (hI.xf xf).mk.x
        | (intro z; omega)
    | succ c ih =>
      intro i hi g xf
      have hb := bst_b (P := fun k => pkr s nw k (s 3).toNat) i
      apply bX9_best_4
      case q1 => intro z; omega
      case e1 =>
        intro _
        refine Ex.mono (by' g (i + 2) xf (by omega) (by omega)) ?_
        rintro r g2 ⟨rfl, xf2⟩
        apply bX9_best_15
        case e1 =>
          refine Ex.mono (by' g2 _ xf2 hb.1 (by omega)) ?_
          rintro r g3 ⟨rfl, xf3⟩
          apply bX9_best_20
          case k1 =>
            intro z
            have h9 := ih (i + 1) (by omega) g3 xf3
            rw [bst_n (k := i) (P := fun k => pkr s nw k (s 3).toNat) (Int.not_lt.mpr z), show ((i + 1 + 2 : Nat) : Int) = ((i + 2 : Nat) : Int) + 1 by omega] at h9
            exact h9
          case k2 =>
            intro z
            have h9 := ih (i + 1) (by omega) g3 xf3
            rw [bst_y (k := i) (P := fun k => pkr s nw k (s 3).toNat) (Int.not_le.mp z), show ((i + 1 + 2 : Nat) : Int) = ((i + 2 : Nat) : Int) + 1 by omega] at h9
            exact h9
          all_goals (intros; exact ⟨by omega, by omega⟩)
        all_goals exact (hI.xf xf2).mk.x
      all_goals exact (hI.xf xf).mk.x
  refine Ex_of_V tX9_best (Nat.le_of_ble_eq_true rfl) ?_
  apply bX9_best_0
  exact key 7 0 (by omega) h XF.rf
theorem pair_best {d d' : Nat} (hI : IE h K) : Ex MX8_best (d + 6) [.inr 2] h 0 0 (PR MX9_best (d' + 4) [.inr 476] K) := by
  obtain ⟨D, node, n, nw, nd, wi, sn, ns, code, cm, s, past, u, hI⟩ := hI
  exact pair_q eqS hI (eX8_best hI) (fun g hJ => eX9_best hJ)
end MF2
