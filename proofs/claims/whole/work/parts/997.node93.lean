/-! ===== model: a wire, an alias, a derived signal ===== -/
section MZ
variable {h g h0 g1 gE : jH} {b : Nat → Int} {c : Nat} {node wi sn code cm code' cm' cw ci : Nat → Int} {n nw nd ns D d p q f L t m : Nat} {op x : Int} {R : Option jA → jH → Prop}
theorem rnWire (hT : TXM g1 b c) (hn : n ≤ 11) (hnw : nw ≤ 5) (hnd : nd ≤ 4) (hI : MI g1 g b c p node n nw nd wi sn ns code cm op)
    (k1 : tso b c p = 2 → 1 ≤ tva b c p → tva b c p ≤ 8 → ∀ g, MI g1 g b c (tnx b c p) (nd6 node n 0 (tva b c p) (-9) op x (nw : Int)) (n + 1) (nw + 1) nd wi sn ns code cm op → R none g)
    (k2 : ¬ (tso b c p = 2 ∧ 1 ≤ tva b c p ∧ tva b c p ≤ 8) → ∀ g, FI g1 g p → R none g) : V MX9_readsNode (d + 7) 142 [some (.inr 476), some (.inl x), some (.inl 0), none, none] [] g 0 0 R := by
  have hT2 := hI.txm hT
  have hM := hT2.1
  have h20 := hI.2.2.1
  have h18 := hI.2.1.2.2.2.1
  have bad : ¬ (tso b c p = 2 ∧ 1 ≤ tva b c p ∧ tva b c p ≤ 8) → V MX9_readsNode (d + 7) 188 [some (.inr 476), some (.inl x), some (.inl 0), some (.inl (-9)), some (.inl (-9))] [.inr 476] g 0 0 R := by
    intro hb
    apply bX9_readsNode_188
    apply bX9_readsNode_189
    case e1 =>
      refine Ex.mono (eX9_due0 hM h20) ?_
      rintro r g2 ⟨rfl, rfl⟩
      have hF := hI.flt
      have hM2 := hF.mk hT
      apply bX9_readsNode_192
      case e1 =>
        refine Ex.mono (eX9_passes_f hM2 hF.ne) ?_
        rintro r g3 ⟨rfl, rfl⟩
        apply bX9_readsNode_202
        exact rn405 hT hF (k2 hb)
      all_goals exact hM2.x
    all_goals exact hM.x
  apply bX9_readsNode_142
  case k1 => intro z; exact absurd h20 z
  case k2 => intro _ z; exact absurd rfl z
  case k3 => rw [h18]; intro _ _ z; exact bad (fun w => z w.1)
  case k4 =>
    rw [h18]
    intro _ _ z
    rw [hI.2.1.2.2.2.2 (tso_lt (b := b) (by rw [z]; decide))]
    intro z2
    exact bad (fun w => z2 w.2)
  case k5 =>
    rw [h18]
    intro _ _ z
    have h19 := hI.2.1.2.2.2.2 (tso_lt (b := b) (by rw [z]; decide))
    rw [h19]
    intro z2
    apply bX9_readsNode_189
    case e1 =>
      refine Ex.mono (eX9_due1 hM) ?_
      rintro r g2 ⟨rfl, rfl⟩
      apply bX9_readsNode_192
      case e1 =>
        rw [h19]
        refine Ex.mono (eX9_passes_y hT2 hI.2.1 h20 (by decide)) ?_
        rintro r g3 ⟨rfl, f3, hq⟩
        have hI3 := hI.nf f3 hq
        apply bX9_readsNode_202
        refine rn241 (code' := code) (cm' := cm) hT hn (by omega) hnd hI3 (fun w hw j hj => ?_) (fun k hk => ?_) ?_
        · rw [if_neg (by decide)] at hw; exact hI3.2.2.2.2.2.2.2.2.1 w hw j hj
        · rw [if_neg (by decide)] at hk; exact hI3.2.2.2.2.2.2.2.2.2 k hk
        · rw [if_pos rfl, if_pos rfl, if_neg (by decide)]
          exact k1 z z2.1 z2.2
      all_goals exact hM.x
    all_goals exact hM.x
  all_goals exact hM.x
theorem rnAlias (hT : TXM g1 b c) (hG : DG node n nw nd wi sn ns code cm) (hn : n ≤ 11) (hI : MI g1 g b c p node n nw nd wi sn ns code cm op)
    (k1 : (ppf node n wi sn ns b c 5 p (-9)).1 ≠ -9 → ∀ g, MI g1 g b c (ppf node n wi sn ns b c 5 p (-9)).2 (nd6 node n 1 (-9) (ppf node n wi sn ns b c 5 p (-9)).1 op x (nd : Int)) (n + 1) nw nd wi sn ns code cm op → R none g)
    (k2 : (ppf node n wi sn ns b c 5 p (-9)).1 = -9 → ∀ g, FI g1 g (ppf node n wi sn ns b c 5 p (-9)).2 → R none g) : V MX9_readsNode (d + 7) 142 [some (.inr 476), some (.inl x), some (.inl 1), none, none] [] g 0 0 R := by
  have hT2 := hI.txm hT
  have hM := hT2.1
  have h20 := hI.2.2.1
  apply bX9_readsNode_142
  case k1 => intro z; exact absurd h20 z
  case k3 => intro _ z; exact absurd z (by decide)
  case k4 => intro _ z; exact absurd z (by decide)
  case k5 => intro _ z; exact absurd z (by decide)
  case k2 =>
    intro _ _
    apply bX9_readsNode_205
    case k1 => intro z; exact absurd h20 z
    case k2 => intro _ z; exact absurd rfl z
    case e1 =>
      intro _ _
      refine Ex.mono (eX9_readsPath hT2 hI.2.1 h20 hI.2.2.2.1 hG) ?_
      rintro r g2 ⟨f2, (⟨y1, rfl, hq, h202⟩ | ⟨y1, ⟨z, rfl⟩, h202⟩)⟩
      · have hI2 := hI.nu f2 hq h202
        apply bX9_readsNode_223
        refine rn241 (code' := code) (cm' := cm) hT hn hG.2.1 hG.2.2.1 hI2 (fun w hw j hj => ?_) (fun k hk => ?_) ?_
        · rw [if_neg (by decide)] at hw; exact hI2.2.2.2.2.2.2.2.2.1 w hw j hj
        · rw [if_neg (by decide)] at hk; exact hI2.2.2.2.2.2.2.2.2.2 k hk
        · rw [if_neg (by decide), if_neg (by decide), if_neg (by decide)]
          exact k1 y1
      · have hF : FI g1 g2 (ppf node n wi sn ns b c 5 p (-9)).2 := ⟨hI.1.trans (f2.wide (fun a ha => ha.elim) (fun k hk => by unfold nuE at hk; unfold PFd; omega)), h202⟩
        apply bX9_readsNode_223
        exact rn405 hT hF (k2 y1)
    all_goals exact hM.x
  all_goals first
    | exact hM.x
    | (intro _ z; exact absurd z (by decide))
/-- the code of one more derived signal -/
def mcode (code : Nat → Int) (nd : Nat) (cw ci : Nat → Int) : Nat → Int := fun k => if k < 40 * nd then code k else if (k - 40 * nd) % 2 = 0 then cw ((k - 40 * nd) / 2) else ci ((k - 40 * nd) / 2)
theorem mcode_o {k : Nat} (hk : k < 40 * nd) : mcode code nd cw ci k = code k := if_pos hk
theorem mcode_w {j : Nat} : mcode code nd cw ci (40 * nd + 2 * j) = cw j := by
  unfold mcode
  rw [if_neg (by omega), if_pos (by omega), show (40 * nd + 2 * j - 40 * nd) / 2 = j by omega]
theorem mcode_i {j : Nat} : mcode code nd cw ci (40 * nd + 2 * j + 1) = ci j := by
  unfold mcode
  rw [if_neg (by omega), if_neg (by omega), show (40 * nd + 2 * j + 1 - 40 * nd) / 2 = j by omega]
theorem EF.mi (hI : MI g1 gE b c p node n nw nd wi sn ns code cm op) (hE : EF gE nd g) : MF PP PFd g1 g := hI.1.trans (hE.1.wide (fun a ha => by unfold PEx at ha; unfold PP; omega) (fun k hk => by unfold FEx at hk; unfold PFd; omega))
/-- behind the expression -/
theorem EXS.mi (hI : MI g1 gE b c p node n nw nd wi sn ns code cm op) (hE : EXS gE nd g b c q [] t m L cw ci) : MI g1 g b c q node n nw nd wi sn ns code cm op := by
  obtain ⟨m1, m2, m3, m4, m5, m6, m7, m8, m9, m10⟩ := id hI
  obtain ⟨e1, e2, e3, -⟩ := hE
  have e : ∀ k, ¬ FEx k → jI g 476 k = jI gE 476 k := e1.1.2.2.2.2.2.2
  refine ⟨e1.mi hI, e2, e3, e1.ndr m4, by rw [e 23 (by unfold FEx; omega)]; exact m5, by rw [e 24 (by unfold FEx; omega)]; exact m6, by rw [e 30 (by unfold FEx; omega)]; exact m7, by rw [e 31 (by unfold FEx; omega)]; exact m8, fun w hw j hj => ?_, fun k hk => by rw [e1.2.2 k hk]; exact m10 k hk⟩
  have := (m10 w hw).2
  rw [e1.2.1 _ (by omega)]
  exact m9 w hw j hj
theorem rnDer (hT : TXM g1 b c) (hG : DG node n nw nd wi sn ns code cm) (hn : n ≤ 11) (hnd : nd ≤ 3) (hI : MI g1 g b c p node n nw nd wi sn ns code cm op)
    (k : MT d g nd b c (fun v h2 => V MX9_readsNode (d + 7) 241 [some (.inr 476), some (.inl x), some (.inl 2), some (.inl (-9)), some (.inl (-9))] (v.toList ++ []) h2 0 0 R) p [] 0 0 0 cw ci) :
    V MX9_readsNode (d + 7) 142 [some (.inr 476), some (.inl x), some (.inl 2), none, none] [] g 0 0 R := by
  have hT2 := hI.txm hT
  have hM := hT2.1
  have h20 := hI.2.2.1
  apply bX9_readsNode_142
  case k1 => intro z; exact absurd h20 z
  case k3 => intro _ z; exact absurd z (by decide)
  case k4 => intro _ z; exact absurd z (by decide)
  case k5 => intro _ z; exact absurd z (by decide)
  case k2 =>
    intro _ _
    apply bX9_readsNode_205
    case k1 => intro z; exact absurd h20 z
    case e1 => intro _ z; exact absurd z (by decide)
    case k2 =>
      intro _ _
      apply bX9_readsNode_228
      case k1 => intro z; exact absurd h20 z
      case e1 =>
        intro _
        exact eX9_readsExpression hT2 hI.2.2.2.2.2.1 hnd hI.2.1 h20 k
      all_goals exact hM.x
    all_goals exact hM.x
  all_goals first
    | exact hM.x
    | (intro _ z; exact absurd z (by decide))
/-- the derived signal is put down -/
theorem rnDerEnd (hT : TXM g1 b c) (hG : DG node n nw nd wi sn ns code cm) (hn : n ≤ 11) (hnd : nd ≤ 3) (hL : L ≤ 17) (hI : MI g1 gE b c p node n nw nd wi sn ns code cm op) (hE : EXS gE nd g b c q [] t m L cw ci)
    (hk : ∀ g, MI g1 g b c q (nd6 node n 2 (-9) (-9) op x (nd : Int)) (n + 1) nw (nd + 1) wi sn ns (mcode code nd cw ci) (up cm nd (L : Int)) op → R none g) :
    V MX9_readsNode (d + 7) 241 [some (.inr 476), some (.inl x), some (.inl 2), some (.inl (-9)), some (.inl (-9))] [] g 0 0 R := by
  have hI2 := hE.mi hI
  have hc := hE.2.2.2.2.2.2.2
  refine rn241 (code' := mcode code nd cw ci) (cm' := up cm nd (L : Int)) hT hn hG.2.1 hG.2.2.1 hI2 (fun w hw j hj => ?_) (fun k hk => ?_) ?_
  · rw [if_pos rfl] at hw
    by_cases z : w = nd
    · subst z
      rw [up_s, Int.toNat_natCast] at hj
      have h9 := hc.2 (j / 2) (by omega)
      by_cases y : j % 2 = 0
      · rw [show 40 * w + j = 40 * w + 2 * (j / 2) by omega, mcode_w]; exact h9.1
      · rw [show 40 * w + j = 40 * w + 2 * (j / 2) + 1 by omega, mcode_i]; exact h9.2
    · rw [up_o z] at hj
      have h17 := (hI2.2.2.2.2.2.2.2.2.2 w (by omega)).2
      rw [mcode_o (by omega)]
      exact hI2.2.2.2.2.2.2.2.2.1 w (by omega) j hj
  · rw [if_pos rfl] at hk
    by_cases z : k = nd
    · subst z
      rw [up_s]
      exact ⟨hc.1, by omega⟩
    · rw [up_o z]
      exact hI2.2.2.2.2.2.2.2.2.2 k (by omega)
  · rw [if_neg (by decide), if_neg (by decide), if_pos rfl]
    exact hk
end MZ
