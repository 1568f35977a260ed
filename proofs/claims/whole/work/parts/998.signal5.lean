/-! ===== class: a signal ===== -/
section NA
variable {h g h0 g1 gE : jH} {b : Nat → Int} {c : Nat} {node wi sn code cm code' cm' cw ci : Nat → Int} {n nw nd ns nw' nd' D d p q f L t m : Nat} {op x : Int} {R : Option jA → jH → Prop}
theorem CI.cbs (hC : CI h D b c p node n nw nd wi sn ns code cm op) (hn : n ≤ 11) : CBS h D b c node n nw nd wi sn ns code cm :=
  ⟨hC.1, hC.2.1, hC.2.2.2.1, hC.2.2.2.2.1, hC.2.2.2.2.2.1, hC.2.2.2.2.2.2.1, hC.2.2.2.2.2.2.2.1, hn⟩
theorem CI.cf (hC : CI h D b c p node n nw nd wi sn ns code cm op) (hn : n ≤ 11) (f : CF D n h g) (hq : TXP g b c q) : CI g D b c q node n nw nd wi sn ns code cm op := by
  obtain ⟨b1, b2, b3, b4, b5, b6, b7, b8⟩ := (hC.cbs hn).cf f
  exact ⟨b1, b2, hq, b3, b4, b5, b6, b7, by rw [f.2.2.2.2.2.2.2.2 2 (by omega)]; exact hC.2.2.2.2.2.2.2.2.1, hC.2.2.2.2.2.2.2.2.2⟩
theorem eX2_addSignal {kd x1 x2 x5 v : Int} (hC : CI h D b c p node n nw nd wi sn ns code cm op) (hn : n ≤ 11) (hkd : kd = 0 ∨ kd = 1 ∨ kd = 2) (hG : DG (nd6 node n kd x1 x2 op x x5) (n + 1) nw' nd' wi sn ns code' cm')
    (hnw : nw' = if kd = 0 then nw + 1 else nw) (hnd : nd' = if kd = 2 then nd + 1 else nd) (hv0 : kd = 0 → v = x1) (hv1 : kd = 1 → v = x2) (hc : ∀ j, j < 40 * nd → code' j = code j) (hm : ∀ j, j < nd → cm' j = cm j)
    (h2 : kd = 2 → jX h (D + 20) n = cm' x5.toNat ∧ ∀ j : Nat, (j : Int) < cm' x5.toNat → jX h (D + 8 + n) j = enc (code' (40 * x5.toNat + 2 * j)) (code' (40 * x5.toNat + 2 * j + 1))) :
    Ex MX2_addSignal d [.inr D, .inl kd, .inl (tp op), .inl x, .inl v] h 0 0 (fun r g => r = none ∧ CI g D b c p (nd6 node n kd x1 x2 op x x5) (n + 1) nw' nd' wi sn ns code' cm' op ∧ IFr D h g) := by
  obtain ⟨c1, c2, c3, c4, c5, c6, c7, c8, c9, c10⟩ := id hC
  obtain ⟨e0, e1, e2, e3, e4, e5, e6, e7, e8, e9, e10, e11, e12, e13, e14, e15, -⟩ := id c4
  obtain ⟨r0, r1, r2, r3, r4, r5⟩ := id c7
  have hnw6 := c8.2.1
  have hnd4 := c8.2.2.1
  -- what all kinds have in common
  have fin : ∀ g : jH, jP g = jP h → jS g = jS h → jN g = jN h → jY g = jY h → jX g = jX (jsX (jsX (jsX (jsX h (D + 1) n kd) (D + 3) n (tp op)) (D + 4) n x) (D + 2) n v) → (∀ a, a ≠ D → jI g a = jI h a) → jI g D 0 = (n : Int) + 1 → jI g D 1 = (nw' : Int) → jI g D 2 = (nd' : Int) → jI g D 3 = jI h D 3 → (none : Option jA) = none ∧ CI g D b c p (nd6 node n kd x1 x2 op x x5) (n + 1) nw' nd' wi sn ns code' cm' op ∧ IFr D h g := by
    intro g gP gS gN gY gX gI i0 i1 i2 i3
    have eX : ∀ a, a ≠ D + 1 → a ≠ D + 2 → a ≠ D + 3 → a ≠ D + 4 → jX g a = jX h a := fun a h1 h2 h3 h4 => by
      rw [gX]
      funext k
      rw [jX_sX, if_neg (fun z => h2 z.1), jX_sX, if_neg (fun z => h4 z.1), jX_sX, if_neg (fun z => h3 z.1), jX_sX, if_neg (fun z => h1 z.1)]
    have x1' : ∀ k, jX g (D + 1) k = if k = n then kd else jX h (D + 1) k := fun k => by
      rw [gX, jX_sX, if_neg (by omega), jX_sX, if_neg (by omega), jX_sX, if_neg (by omega), jX_sX]
      by_cases z : k = n
      · rw [if_pos ⟨rfl, z⟩, if_pos z]
      · rw [if_neg (fun y => z y.2), if_neg z]
    have x3' : ∀ k, jX g (D + 3) k = if k = n then tp op else jX h (D + 3) k := fun k => by
      rw [gX, jX_sX, if_neg (by omega), jX_sX, if_neg (by omega), jX_sX, jX_sX, if_neg (show ¬ (D + 3 = D + 1 ∧ k = n) by omega)]
      by_cases z : k = n
      · rw [if_pos ⟨rfl, z⟩, if_pos z]
      · rw [if_neg (fun y => z y.2), if_neg z]
    have x4' : ∀ k, jX g (D + 4) k = if k = n then x else jX h (D + 4) k := fun k => by
      rw [gX, jX_sX, if_neg (by omega), jX_sX, jX_sX, if_neg (show ¬ (D + 4 = D + 3 ∧ k = n) by omega), jX_sX, if_neg (show ¬ (D + 4 = D + 1 ∧ k = n) by omega)]
      by_cases z : k = n
      · rw [if_pos ⟨rfl, z⟩, if_pos z]
      · rw [if_neg (fun y => z y.2), if_neg z]
    have x2' : ∀ k, jX g (D + 2) k = if k = n then v else jX h (D + 2) k := fun k => by
      rw [gX, jX_sX, jX_sX, if_neg (show ¬ (D + 2 = D + 4 ∧ k = n) by omega), jX_sX, if_neg (show ¬ (D + 2 = D + 3 ∧ k = n) by omega), jX_sX, if_neg (show ¬ (D + 2 = D + 1 ∧ k = n) by omega)]
      by_cases z : k = n
      · rw [if_pos ⟨rfl, z⟩, if_pos z]
      · rw [if_neg (fun y => z y.2), if_neg z]
    have eI3 : jI g 3 = jI h 3 := gI 3 (by omega)
    have eI49 : jI g 49 = jI h 49 := gI 49 (by omega)
    refine ⟨rfl, ⟨?_, ?_, ?_, ?_, ?_, c6, ⟨by rw [i0]; omega, i1, i2, by rw [i3]; exact r3, fun k hk => ?_, fun k hk => ?_⟩, hG, by rw [eI49]; exact c9, c10⟩, gP, gS, gN, gY, fun a ha => eX a (by omega) (by omega) (by omega) (by omega), fun a h1 _ _ => gI a h1, fun k _ => by rw [eI3]⟩
    · unfold RDC; rw [gP, gS]; exact c1
    · unfold TXC; rw [gP, gS, eI3, eX 4 (by omega) (by omega) (by omega) (by omega)]; exact c2
    · unfold TXP; rw [eI3]; exact c3
    · unfold DK; rw [gP, gS]; exact c4
    · unfold DY; rw [gY]; exact c5
    · unfold NRep
      rw [x1', x2', x3', x4', eX (D + 20) (by omega) (by omega) (by omega) (by omega), eX (D + 8 + k) (by omega) (by omega) (by omega) (by omega)]
      by_cases z : k = n
      · subst z
        rw [if_pos rfl, if_pos rfl, if_pos rfl, if_pos rfl, nd6_0, nd6_1, nd6_2, nd6_3, nd6_4]
        refine ⟨rfl, rfl, rfl, hv0, hv1, fun q => ?_⟩
        have ew : wr (nd6 node k kd x1 x2 op x x5) k = x5.toNat := by unfold wr; rw [nd6_5]
        rw [ew]
        exact h2 q
      · rw [if_neg z, if_neg z, if_neg z, if_neg z]
        have ew : wr (nd6 node n kd x1 x2 op x x5) k = wr node k := by unfold wr; rw [nd6_o (by omega)]
        have e6 : nd6 node n kd x1 x2 op x x5 (6 * k) = node (6 * k) := nd6_o (by omega)
        rw [ew, e6, nd6_o (show 6 * k + 1 < 6 * n by omega), nd6_o (show 6 * k + 2 < 6 * n by omega), nd6_o (show 6 * k + 3 < 6 * n by omega), nd6_o (show 6 * k + 4 < 6 * n by omega)]
        obtain ⟨n1, n2, n3, n4, n5, n6⟩ := r4 k (by omega)
        refine ⟨n1, n2, n3, n4, n5, fun q => ?_⟩
        have hb := (c8.2.2.2.2.1 k (by omega)).1
        rcases hb with z1 | z1 | ⟨z1, z2, z3, z4, z5, z6, z7⟩
        · omega
        · omega
        · have hw : wr node k < nd := by unfold wr; omega
          have h17 := z7.1
          obtain ⟨y1, y2⟩ := n6 q
          rw [hm _ hw]
          refine ⟨y1, fun j hj => ?_⟩
          rw [hc _ (by omega), hc _ (by omega)]
          exact y2 j hj
    · rw [eX (D + 5) (by omega) (by omega) (by omega) (by omega), eX (D + 6) (by omega) (by omega) (by omega) (by omega)]; exact r5 k hk
  refine Ex_of_V tX2_addSignal (Nat.le_of_ble_eq_true rfl) ?_
  apply bX2_addSignal_0
  case q4 => rw [r0]; intro z; omega
  case q1 =>
    rw [r0, e1, e2, e3, e4, Int.toNat_natCast]
    intro _ z z2
    rw [if_neg z] at hnw
    rw [if_neg z2] at hnd
    refine fin _ rfl rfl rfl rfl rfl (fun a ha => funext fun k => by rw [jI_sI, if_neg (fun y => ha y.1)]; rfl) ?_ ?_ ?_ ?_
    · rw [jI_sI, if_pos ⟨rfl, rfl⟩]
    · rw [jI_sI, if_neg (by omega), hnw]; exact r1
    · rw [jI_sI, if_neg (by omega), hnd]; exact r2
    · rw [jI_sI, if_neg (by omega)]; rfl
  case q2 =>
    rw [r0, r2, e1, e2, e3, e4, Int.toNat_natCast]
    intro _ z z2
    rw [if_neg z] at hnw
    rw [if_pos z2] at hnd
    refine fin _ rfl rfl rfl rfl rfl (fun a ha => funext fun k => by rw [jI_sI, if_neg (fun y => ha y.1), jI_sI, if_neg (fun y => ha y.1)]; rfl) ?_ ?_ ?_ ?_
    · rw [jI_sI, if_neg (by omega), jI_sI, if_pos ⟨rfl, rfl⟩]
    · rw [jI_sI, if_neg (by omega), jI_sI, if_neg (by omega), hnw]; exact r1
    · rw [jI_sI, if_pos ⟨rfl, rfl⟩, hnd]; omega
    · rw [jI_sI, if_neg (by omega), jI_sI, if_neg (by omega)]; rfl
  case q3 =>
    rw [r0, r1, e1, e2, e3, e4, Int.toNat_natCast]
    intro _ z
    rw [if_pos z] at hnw
    rw [if_neg (by omega)] at hnd
    refine fin _ rfl rfl rfl rfl rfl (fun a ha => funext fun k => by rw [jI_sI, if_neg (fun y => ha y.1), jI_sI, if_neg (fun y => ha y.1)]; rfl) ?_ ?_ ?_ ?_
    · rw [jI_sI, if_neg (by omega), jI_sI, if_pos ⟨rfl, rfl⟩]
    · rw [jI_sI, if_pos ⟨rfl, rfl⟩, hnw]; omega
    · rw [jI_sI, if_neg (by omega), jI_sI, if_neg (by omega), hnd]; exact r2
    · rw [jI_sI, if_neg (by omega), jI_sI, if_neg (by omega)]; rfl
  all_goals (try rw [r0])
  all_goals (try rw [r1])
  all_goals (try rw [r2])
  all_goals first
    | exact e0
    | (rw [e1, e10]; done)
    | (rw [e2, e11]; done)
    | (rw [e3, e12]; done)
    | (rw [e4, e13]; done)
    | (intros; exact ⟨by omega, by omega⟩)
    | (intros; omega)
    | (intros; rw [e1, e10]; refine Int.lt_of_le_of_lt (b := 11) ?_ (by decide); omega)
    | (intros; rw [e2, e11]; refine Int.lt_of_le_of_lt (b := 11) ?_ (by decide); omega)
    | (intros; rw [e3, e12]; refine Int.lt_of_le_of_lt (b := 11) ?_ (by decide); omega)
    | (intros; rw [e4, e13]; refine Int.lt_of_le_of_lt (b := 11) ?_ (by decide); omega)
/-- the width of a wire -/
theorem eX5_readWidth (hC : CI h D b c p node n nw nd wi sn ns code cm op) : Ex MX5_readWidth (d + 1) [.inr 49] h 0 0 (fun r g => ((tso b c p = 2 ∧ 1 ≤ tva b c p ∧ tva b c p ≤ 8) ∧ r = some (.inl (tva b c p)) ∧ TF h g ∧ CI g D b c (tnx b c p) node n nw nd wi sn ns code cm op) ∨ (¬ (tso b c p = 2 ∧ 1 ≤ tva b c p ∧ tva b c p ≤ 8) ∧ r = some (.inl (-9)) ∧ g = h)) := by
  obtain ⟨c1, c2, c3, -⟩ := id hC
  refine Ex_of_V tX5_readWidth (Nat.le_of_ble_eq_true rfl) ?_
  apply bX5_readWidth_0
  case e1 =>
    rw [c1.2.1]
    refine Ex.mono (eX7_number c2 c3) ?_
    rintro r g ⟨rfl, rfl⟩
    have e2 : ∀ z : Int, 1 ≤ z → tnu b c p = z → tso b c p = 2 ∧ tva b c p = z := by
      intro z hz e
      unfold tnu at e
      by_cases y : tso b c p = 2
      · rw [if_pos y] at e; exact ⟨y, e⟩
      · rw [if_neg y] at e; omega
    apply bX5_readWidth_7
    case q1 =>
      intro z
      refine Or.inr ⟨fun y => ?_, rfl, rfl⟩
      have : tnu b c p = tva b c p := if_pos y.1
      omega
    case q2 =>
      intro _ z
      refine Or.inr ⟨fun y => ?_, rfl, rfl⟩
      have : tnu b c p = tva b c p := if_pos y.1
      omega
    case e1 =>
      intro z z2
      obtain ⟨y1, y2⟩ := e2 _ (by omega) rfl
      rw [c1.2.1]
      refine Ex.mono hC.next ?_
      rintro r g2 ⟨rfl, f2, hC2⟩
      apply bX5_readWidth_29
      rw [← y2] at z z2 ⊢
      exact Or.inl ⟨⟨y1, by omega, z2⟩, rfl, f2, hC2⟩
    all_goals first
      | exact c1.1
      | (rw [c1.2.1]; exact c2.1)
  all_goals first
    | exact c1.1
    | (rw [c1.2.1]; exact c2.1)
theorem hg_m : ∀ j, hg (mcode code nd cw ci) (40 * nd) j = hq cw j
  | 0 => rfl
  | j + 1 => by
    unfold hg hq
    rw [mcode_w, hg_m j]
/-- the code of an expression is well made -/
theorem CW_of (hH : HS cw ci L n t) (h1 : hq cw L = 1) (hL : L ≤ 17) : CW (mcode code nd cw ci) (40 * nd) L n := by
  refine ⟨hL, by rw [hg_m]; exact h1, fun j hj => ?_⟩
  rw [hg_m, hg_m, mcode_w, mcode_i]
  exact hH.2 j hj
end NA
