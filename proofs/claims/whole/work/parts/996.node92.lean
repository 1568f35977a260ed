/-! ===== model: a node, whole ===== -/
section MY
variable {h g h0 g1 gE : jH} {b : Nat → Int} {c : Nat} {node wi sn code cm code' cm' cw ci : Nat → Int} {n nw nd ns D d p q f L t m : Nat} {op i1 i2 i3 i4 : Int} {R : Option jA → jH → Prop}
/-- the node is put down -/
theorem rn241 (hT : TXM g1 b c) (hn : n ≤ 11) (hnw : nw ≤ 6) (hnd : nd ≤ 4) (hI : MI g1 g b c p node n nw nd wi sn ns code cm op)
    (hc : ∀ w, w < (if i2 = 2 then nd + 1 else nd) → ∀ j, j < 2 * (cm' w).toNat → jX g 490 (40 * w + j) = code' (40 * w + j)) (hm : ∀ k, k < (if i2 = 2 then nd + 1 else nd) → jX g 491 k = cm' k ∧ cm' k ≤ 17)
    (hk : ∀ g, MI g1 g b c p (nd6 node n i2 i3 i4 op i1 (if i2 = 0 then (nw : Int) else (nd : Int))) (n + 1) (if i2 = 0 then nw + 1 else nw) (if i2 = 2 then nd + 1 else nd) wi sn ns code' cm' op → R none g) :
    V MX9_readsNode (d + 7) 241 [some (.inr 476), some (.inl i1), some (.inl i2), some (.inl i3), some (.inl i4)] [] g 0 0 R := by
  have hT2 := hI.txm hT
  have hM := hT2.1
  have m3 := hI.2.2.1
  have n0 := hI.2.2.2.1.1
  have m5 := hI.2.2.2.2.1
  have m6 := hI.2.2.2.2.2.1
  have m7 := hI.2.2.2.2.2.2.1
  have t0 : (6 * (n : Int) + 0).toNat = 6 * n := by omega
  have t1 : (6 * (n : Int) + 1).toNat = 6 * n + 1 := by omega
  have t2 : (6 * (n : Int) + 2).toNat = 6 * n + 2 := by omega
  have t3 : (6 * (n : Int) + 3).toNat = 6 * n + 3 := by omega
  have t4 : (6 * (n : Int) + 4).toNat = 6 * n + 4 := by omega
  have rest : ∀ wh : Int, wh = (if i2 = 0 then (nw : Int) else (nd : Int)) → V MX9_readsNode (d + 7) 357 [some (.inr 476), some (.inl i1), some (.inl i2), some (.inl i3), some (.inl i4)] [.inl wh, .inl (6 * (n : Int) + 5), .inr 487] (jsX (jsX (jsX (jsX (jsX g 487 (6 * n) i2) 487 (6 * n + 1) i3) 487 (6 * n + 2) i4) 487 (6 * n + 3) op) 487 (6 * n + 4) i1) 0 0 R := by
    intro wh hwh
    have f5 : MF PP PFd g (jsX (jsX (jsX (jsX (jsX g 487 (6 * n) i2) 487 (6 * n + 1) i3) 487 (6 * n + 2) i4) 487 (6 * n + 3) op) 487 (6 * n + 4) i1) :=
      ((((MF.sX (by unfold PP; omega)).trans (MF.sX (by unfold PP; omega))).trans (MF.sX (by unfold PP; omega))).trans (MF.sX (by unfold PP; omega))).trans (MF.sX (by unfold PP; omega))
    have x5 : ∀ a, a ≠ 487 → jX (jsX (jsX (jsX (jsX (jsX g 487 (6 * n) i2) 487 (6 * n + 1) i3) 487 (6 * n + 2) i4) 487 (6 * n + 3) op) 487 (6 * n + 4) i1) a = jX g a := fun a ha => by
      funext k
      rw [jX_sX, if_neg (fun z => ha z.1), jX_sX, if_neg (fun z => ha z.1), jX_sX, if_neg (fun z => ha z.1), jX_sX, if_neg (fun z => ha z.1), jX_sX, if_neg (fun z => ha z.1)]
    have w5 := nd6_w (g := g) (n := n) (x0 := i2) (x1 := i3) (x2 := i4) (x3 := op) (x4 := i1) (x5 := wh)
    have i5 : jI (jsX (jsX (jsX (jsX (jsX g 487 (6 * n) i2) 487 (6 * n + 1) i3) 487 (6 * n + 2) i4) 487 (6 * n + 3) op) 487 (6 * n + 4) i1) = jI g := rfl
    generalize jsX (jsX (jsX (jsX (jsX g 487 (6 * n) i2) 487 (6 * n + 1) i3) 487 (6 * n + 2) i4) 487 (6 * n + 3) op) 487 (6 * n + 4) i1 = g5 at f5 x5 w5 i5
    refine rn357 (f5.mk hM) (by rw [i5]; exact n0) (by rw [i5]; exact m5) (by rw [i5]; exact m6) hn hnw hnd (fun g8 f8 e8 x8 q22 q23 q24 qo => ?_)
    refine hk g8 (hI.ndd (x0 := i2) (x1 := i3) (x2 := i4) (x4 := i1) (x5 := if i2 = 0 then (nw : Int) else (nd : Int)) (f5.trans f8) ?_ (fun a ha => (x8 a ha).trans (x5 a ha)) q22 q23 q24 (fun k h1 h2 h3 => (qo k h1 h2 h3).trans (by rw [i5])) hc hm)
    rw [e8, w5, hwh]
  apply bX9_readsNode_241
  case k1 => intro z; exact absurd m3 z
  case k2 =>
    rw [n0, m6, m7, hM.p21, t0, t1, t2, t3, t4]
    intro _ z
    exact rest _ (by rw [if_neg z])
  case k3 =>
    rw [n0, m5, m7, hM.p21, t0, t1, t2, t3, t4]
    intro _ z
    exact rest _ (by rw [if_pos z])
  all_goals (try rw [n0])
  all_goals first
    | exact hM.x
    | (rw [hM.p21, hM.s487]; done)
    | (intros; exact ⟨by omega, by omega⟩)
    | (intros; omega)
    | (intros; rw [hM.p21, hM.s487]; refine Int.lt_of_le_of_lt (b := 71) ?_ (by decide); omega)
/-- the name is there already, or there is no room -/
theorem rnBad (hT : TXM g1 b c) (hG : DG node n nw nd wi sn ns code cm) (hI : MI g1 g b c p node n nw nd wi sn ns code cm op) (hs : tso b c p = 1) (hb : 12 ≤ n ∨ nmv node n wi sn ns op (tva b c p) ≠ -9) (hk : ∀ g, FI g1 g p → R none g) : Ex MX9_readsNode (d + 7) [.inr 476] g 0 0 R := by
  have hT2 := hI.txm hT
  have hM := hT2.1
  have h20 := hI.2.2.1
  have hN := hI.2.2.2.1
  have h30 := hI.2.2.2.2.2.2.1
  have h19 := hI.2.1.2.2.2.2 (tso_lt (b := b) (by rw [hs]; decide))
  have n12 := hG.1
  have ns6 := hG.2.2.2.1
  refine Ex_of_V tX9_readsNode (Nat.le_of_ble_eq_true rfl) ?_
  have bad : V MX9_readsNode (d + 7) 47 [some (.inr 476), some (.inl (tva b c p)), none, none, none] [.inr 476] g 0 0 R := by
    apply bX9_readsNode_47
    apply bX9_readsNode_48
    case e1 =>
      refine Ex.mono (eX9_due0 hM h20) ?_
      rintro r g2 ⟨rfl, rfl⟩
      have hF := hI.flt
      have hM2 := hF.mk hT
      apply bX9_readsNode_51
      case e1 =>
        refine Ex.mono (eX9_passes_f hM2 hF.ne) ?_
        rintro r g3 ⟨rfl, rfl⟩
        have fin : ∀ i2 : Int, V MX9_readsNode (d + 7) 137 [some (.inr 476), some (.inl (tva b c p)), some (.inl i2), none, none] [] (jsI g 476 20 (jI g 476 17)) 0 0 R := by
          intro i2
          apply bX9_readsNode_137
          case e1 =>
            refine Ex.mono (eX9_passes_f hM2 hF.ne) ?_
            rintro r g3 ⟨rfl, rfl⟩
            exact rn142f hT hF hk
          all_goals exact hM2.x
        have f134 : ∀ i2 x : Int, V MX9_readsNode (d + 7) 134 [some (.inr 476), some (.inl (tva b c p)), some (.inl i2), none, none] [.inl x, .inr 476] (jsI g 476 20 (jI g 476 17)) 0 0 R := by
          intro i2 x
          apply bX9_readsNode_134
          case e1 =>
            refine Ex.mono (eX9_duef hM2 hF.ne) ?_
            rintro r g3 ⟨rfl, rfl⟩
            exact fin i2
          all_goals exact hM2.x
        have f129 : ∀ i2 : Int, V MX9_readsNode (d + 7) 129 [some (.inr 476), some (.inl (tva b c p)), some (.inl i2), none, none] [.inr 476] (jsI g 476 20 (jI g 476 17)) 0 0 R := by
          intro i2
          apply bX9_readsNode_129
          exact f134 i2 1
        have f133 : ∀ i2 : Int, V MX9_readsNode (d + 7) 133 [some (.inr 476), some (.inl (tva b c p)), some (.inl i2), none, none] [.inr 476] (jsI g 476 20 (jI g 476 17)) 0 0 R := by
          intro i2
          apply bX9_readsNode_133
          exact f134 i2 0
        have f103 : ∀ i2 : Int, V MX9_readsNode (d + 7) 103 [some (.inr 476), some (.inl (tva b c p)), some (.inl i2), none, none] [.inr 476] (jsI g 476 20 (jI g 476 17)) 0 0 R := by
          intro i2
          apply bX9_readsNode_103
          case k1 => intro _; exact f129 i2
          case k2 => intro _ _; exact f133 i2
          case k3 => intro _ _ _; exact f133 i2
          case k4 => intro _ _ _; exact f129 i2
          all_goals exact hM2.x
        have f83 : ∀ i2 : Int, V MX9_readsNode (d + 7) 83 [some (.inr 476), some (.inl (tva b c p)), none, none, none] [.inl i2] (jsI g 476 20 (jI g 476 17)) 0 0 R := by
          intro i2
          apply bX9_readsNode_83
          case k1 => intro _; exact f103 i2
          case k2 => intro _ _; exact f129 i2
          case k3 => intro _ _; exact f103 i2
          all_goals exact hM2.x
        apply bX9_readsNode_56
        case k1 => intro _ _; exact f83 2
        case k2 => intro _ _; exact f83 1
        case k3 => intro _; exact f83 0
        all_goals exact hM2.x
      all_goals exact hM2.x
    all_goals exact hM.x
  apply bX9_readsNode_0
  case k1 => rw [h19]; intro _; exact bad
  case e1 =>
    rw [hN.1, h30, h19]
    intro z
    refine Ex.mono (eX9_newNodeBy (x := op) (c := tva b c p) hM hN.1 n12) ?_
    rintro r g2 ⟨⟨z1, rfl, hz1⟩, rfl⟩
    have e1 := fN_u hG (has_cong (f' := fun k => node (6 * k + 3)) (q' := fun k => node (6 * k + 4)) (x' := op) (fun k hk => by
      show (jX g2 487 (6 * k + 3) = op ↔ node (6 * k + 3) = op) ∧ jX g2 487 (6 * k + 4) = node (6 * k + 4)
      rw [hN.2.2.1 (6 * k + 3) (by omega), hN.2.2.1 (6 * k + 4) (by omega)]
      exact ⟨Iff.rfl, rfl⟩) hz1)
    subst e1
    apply bX9_readsNode_24
    case k1 => intro _; exact bad
    case e1 =>
      rw [h30]
      intro y
      refine Ex.mono (eX9_newScopeBy (x := op) (c := tva b c p) hM hN.2.1 ns6) ?_
      rintro r g4 ⟨⟨z2, rfl, hz2⟩, rfl⟩
      have e2 := fS_u hG (has_cong (f' := wi) (q' := sn) (x' := op) (fun k hk => by
        rw [(hN.2.2.2 k hk).1, (hN.2.2.2 k hk).2]
        exact ⟨Iff.rfl, rfl⟩) hz2)
      subst e2
      apply bX9_readsNode_38
      case k1 => intro _; exact bad
      case k2 =>
        intro y2
        rcases hb with w | w
        · omega
        · exact absurd (by unfold nmv nmc; rw [if_neg (by omega), if_neg (by omega)]) w
    all_goals exact hM.x
  all_goals exact hM.x
/-- the name is new: on to what it is -/
theorem rnGood (hT : TXM g1 b c) (hG : DG node n nw nd wi sn ns code cm) (hI : MI g1 g b c p node n nw nd wi sn ns code cm op) (hs : tso b c p = 1) (hn : n ≤ 11) (hf : nmv node n wi sn ns op (tva b c p) = -9)
    (hk : ∀ g, MI g1 g b c (tnx b c p) node n nw nd wi sn ns code cm op → V MX9_readsNode (d + 7) 56 [some (.inr 476), some (.inl (tva b c p)), none, none, none] [] g 0 0 R) : Ex MX9_readsNode (d + 7) [.inr 476] g 0 0 R := by
  have hT2 := hI.txm hT
  have hM := hT2.1
  have h20 := hI.2.2.1
  have hN := hI.2.2.2.1
  have h30 := hI.2.2.2.2.2.2.1
  have h19 := hI.2.1.2.2.2.2 (tso_lt (b := b) (by rw [hs]; decide))
  have n12 := hG.1
  have ns6 := hG.2.2.2.1
  have b1 : fN node n op (tva b c p) = -9 ∨ (0 ≤ fN node n op (tva b c p) ∧ fN node n op (tva b c p) < n) := fN_b
  have b2 : fS wi sn ns op (tva b c p) = -9 ∨ (0 ≤ fS wi sn ns op (tva b c p) ∧ fS wi sn ns op (tva b c p) < ns) := fS_b
  have h2 : fN node n op (tva b c p) = -9 := by
    apply Classical.byContradiction
    intro z
    have : nmv node n wi sn ns op (tva b c p) = fN node n op (tva b c p) := if_pos z
    omega
  have h3 : fS wi sn ns op (tva b c p) = -9 := by
    apply Classical.byContradiction
    intro z
    have : nmv node n wi sn ns op (tva b c p) = 100 + fS wi sn ns op (tva b c p) := by unfold nmv nmc; rw [if_neg (by omega), if_pos z]
    omega
  refine Ex_of_V tX9_readsNode (Nat.le_of_ble_eq_true rfl) ?_
  apply bX9_readsNode_0
  case k1 => rw [hN.1]; intro z; omega
  case e1 =>
    rw [h30, h19]
    intro z
    refine Ex.mono (eX9_newNodeBy (x := op) (c := tva b c p) hM hN.1 n12) ?_
    rintro r g2 ⟨⟨z1, rfl, hz1⟩, rfl⟩
    have e1 := fN_u hG (has_cong (f' := fun k => node (6 * k + 3)) (q' := fun k => node (6 * k + 4)) (x' := op) (fun k hk => by
      show (jX g2 487 (6 * k + 3) = op ↔ node (6 * k + 3) = op) ∧ jX g2 487 (6 * k + 4) = node (6 * k + 4)
      rw [hN.2.2.1 (6 * k + 3) (by omega), hN.2.2.1 (6 * k + 4) (by omega)]
      exact ⟨Iff.rfl, rfl⟩) hz1)
    subst e1
    apply bX9_readsNode_24
    case k1 => intro y; exact absurd h2 y
    case e1 =>
      rw [h30]
      intro y
      refine Ex.mono (eX9_newScopeBy (x := op) (c := tva b c p) hM hN.2.1 ns6) ?_
      rintro r g4 ⟨⟨z2, rfl, hz2⟩, rfl⟩
      have e2 := fS_u hG (has_cong (f' := wi) (q' := sn) (x' := op) (fun k hk => by
        rw [(hN.2.2.2 k hk).1, (hN.2.2.2 k hk).2]
        exact ⟨Iff.rfl, rfl⟩) hz2)
      subst e2
      apply bX9_readsNode_38
      case k1 => intro y2; exact absurd h3 y2
      case k2 =>
        intro _
        apply bX9_readsNode_48
        case e1 =>
          refine Ex.mono (eX9_due1 hM) ?_
          rintro r g5 ⟨rfl, rfl⟩
          apply bX9_readsNode_51
          case e1 =>
            refine Ex.mono (eX9_passes_y hT2 hI.2.1 h20 (by decide)) ?_
            rintro r g6 ⟨rfl, f6, hq⟩
            exact hk g6 (hI.nf f6 hq)
          all_goals exact hM.x
        all_goals exact hM.x
    all_goals exact hM.x
  all_goals exact hM.x
/-- what the sign behind the name says: 0, 1, 2, or nothing that may stand there -/
def knd (b : Nat → Int) (c p : Nat) : Int := if tso b c p = 3 ∧ tva b c p = 58 then 0 else if tso b c p = 3 ∧ tva b c p = 64 then 1 else 2
def knok (b : Nat → Int) (c p nw nd : Nat) : Prop := (tso b c p = 3 ∧ tva b c p = 58 ∧ nw ≤ 5) ∨ (tso b c p = 3 ∧ tva b c p = 64) ∨ (tso b c p = 3 ∧ tva b c p = 61 ∧ nd ≤ 3)
theorem rn56 {x : Int} (hT : TXM g1 b c) (hI : MI g1 g b c p node n nw nd wi sn ns code cm op)
    (k1 : knok b c p nw nd → ∀ g, MI g1 g b c (tnx b c p) node n nw nd wi sn ns code cm op → V MX9_readsNode (d + 7) 142 [some (.inr 476), some (.inl x), some (.inl (knd b c p)), none, none] [] g 0 0 R)
    (k2 : ¬ knok b c p nw nd → ∀ g, FI g1 g p → R none g) : V MX9_readsNode (d + 7) 56 [some (.inr 476), some (.inl x), none, none, none] [] g 0 0 R := by
  have hT2 := hI.txm hT
  have hM := hT2.1
  have h20 := hI.2.2.1
  have h18 := hI.2.1.2.2.2.1
  have h23 := hI.2.2.2.2.1
  have h24 := hI.2.2.2.2.2.1
  have tk : ∀ y : Int, (jI g 476 18 = 3 ∧ jI g 476 19 = y) ↔ (tso b c p = 3 ∧ tva b c p = y) := by
    intro y
    constructor
    · rintro ⟨y1, y2⟩
      rw [h18] at y1
      rw [hI.2.1.2.2.2.2 (tso_lt (b := b) (by rw [y1]; decide))] at y2
      exact ⟨y1, y2⟩
    · rintro ⟨y1, y2⟩
      rw [h18, hI.2.1.2.2.2.2 (tso_lt (b := b) (by rw [y1]; decide))]
      exact ⟨y1, y2⟩
  have good : knok b c p nw nd → V MX9_readsNode (d + 7) 129 [some (.inr 476), some (.inl x), some (.inl (knd b c p)), none, none] [.inr 476] g 0 0 R := by
    intro hk
    apply bX9_readsNode_129
    apply bX9_readsNode_134
    case e1 =>
      refine Ex.mono (eX9_due1 hM) ?_
      rintro r g2 ⟨rfl, rfl⟩
      apply bX9_readsNode_137
      case e1 =>
        refine Ex.mono (eX9_passes_y hT2 hI.2.1 h20 (by decide)) ?_
        rintro r g3 ⟨rfl, f3, hq⟩
        exact k1 hk g3 (hI.nf f3 hq)
      all_goals exact hM.x
    all_goals exact hM.x
  have bad : ¬ knok b c p nw nd → V MX9_readsNode (d + 7) 133 [some (.inr 476), some (.inl x), some (.inl (knd b c p)), none, none] [.inr 476] g 0 0 R := by
    intro hk
    apply bX9_readsNode_133
    apply bX9_readsNode_134
    case e1 =>
      refine Ex.mono (eX9_due0 hM h20) ?_
      rintro r g2 ⟨rfl, rfl⟩
      have hF := hI.flt
      have hM2 := hF.mk hT
      apply bX9_readsNode_137
      case e1 =>
        refine Ex.mono (eX9_passes_f hM2 hF.ne) ?_
        rintro r g3 ⟨rfl, rfl⟩
        exact rn142f hT hF (k2 hk)
      all_goals exact hM2.x
    all_goals exact hM.x
  have f103 : ¬ (tso b c p = 3 ∧ tva b c p = 58 ∧ nw ≤ 5) → V MX9_readsNode (d + 7) 103 [some (.inr 476), some (.inl x), some (.inl (knd b c p)), none, none] [.inr 476] g 0 0 R := by
    intro hn
    apply bX9_readsNode_103
    case k1 => rw [tk]; intro z; exact good (Or.inr (Or.inl z))
    case k2 =>
      rw [tk, tk]
      intro z z2
      refine bad ?_
      rintro (w | w | w)
      · exact hn w
      · exact z w
      · exact z2 ⟨w.1, w.2.1⟩
    case k3 =>
      rw [tk, tk, h24]
      intro z z2 z3
      refine bad ?_
      rintro (w | w | w)
      · exact hn w
      · exact z w
      · omega
    case k4 => rw [tk, tk, h24]; intro z z2 z3; exact good (Or.inr (Or.inr ⟨z2.1, z2.2, by omega⟩))
    all_goals exact hM.x
  have f83 : V MX9_readsNode (d + 7) 83 [some (.inr 476), some (.inl x), none, none, none] [.inl (knd b c p)] g 0 0 R := by
    apply bX9_readsNode_83
    case k1 => rw [tk]; intro z; exact f103 (fun w => z ⟨w.1, w.2.1⟩)
    case k2 => rw [tk, h23]; intro z z2; exact good (Or.inl ⟨z.1, z.2, by omega⟩)
    case k3 => rw [tk, h23]; intro z z2; exact f103 (fun w => by omega)
    all_goals exact hM.x
  apply bX9_readsNode_56
  case k1 =>
    rw [tk, tk]
    intro z z2
    have e : knd b c p = 2 := by unfold knd; rw [if_neg z, if_neg z2]
    rw [e] at f83
    exact f83
  case k2 =>
    rw [tk, tk]
    intro z z2
    have e : knd b c p = 1 := by unfold knd; rw [if_neg z, if_pos z2]
    rw [e] at f83
    exact f83
  case k3 =>
    rw [tk]
    intro z
    have e : knd b c p = 0 := by unfold knd; rw [if_pos z]
    rw [e] at f83
    exact f83
  all_goals exact hM.x
end MY
