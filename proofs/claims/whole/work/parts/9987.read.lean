/-! ===== both sides: all items ===== -/
section ND
variable {h g h0 g1 gE : jH} {b : Nat → Int} {c : Nat} {node wi sn code cm : Nat → Int} {n nw nd ns D d p q f : Nat} {op x : Int} {R : Option jA → jH → Prop}
theorem IFr.s3 {k : Nat} {v : Int} (hk : 2 ≤ k) : IFr D h (jsI h 3 k v) := ⟨rfl, rfl, rfl, rfl, fun _ _ => rfl, fun a _ y _ => funext fun j => by rw [jI_sI, if_neg (fun z => y z.1)], fun j x => by rw [jI_sI, if_neg (by omega)]⟩
def z00 : Nat → Int := fun _ => 0
/-- the model's loop over the items, from one state to another -/
def LK9 (b : Nat → Int) (c p i : Nat) (node : Nat → Int) (n nw nd : Nat) (wi sn : Nat → Int) (ns : Nat) (code cm : Nat → Int) (op : Int) : Prop :=
  ∀ (d : Nat) (g1 : jH) (R : Option jA → jH → Prop), TXM g1 b c → (∀ g', MI g1 g' b c p node n nw nd wi sn ns code cm op → V MX9_tells (d + 9) 48 [some (.inr 476), some (.inl (i : Int))] [] g' 0 0 R) → ∀ g', MI g1 g' b c (tsk b c 0) z00 0 0 0 z00 z00 0 z00 z00 (-9) → V MX9_tells (d + 9) 48 [some (.inr 476), some (.inl 0)] [] g' 0 0 R
def RPost (h1 : jH) (D : Nat) (b : Nat → Int) (c : Nat) (r : Option jA) (g : jH) : Prop :=
  (∃ (it q n nw nd ns : Nat) (node wi sn code cm : Nat → Int) (op : Int), r = some (.inl (it : Int)) ∧ it ≤ 160 ∧ CI g D b c q node n nw nd wi sn ns code cm op ∧ tso b c q = 4 ∧ IFr D h1 g ∧ LK9 b c q it node n nw nd wi sn ns code cm op) ∨
  (r = some (.inl (-9)) ∧ ∃ f : Nat, IFr D h1 g ∧ (jI g 3 2 = (f : Int) ∧ f ≤ c) ∧ ∀ (d : Nat) (g1 : jH) (R : Option jA → jH → Prop), TXM g1 b c → (∀ g', FI g1 g' f → R (some (.inl (-10 - (f : Int)))) g') → ∀ g', MI g1 g' b c (tsk b c 0) z00 0 0 0 z00 z00 0 z00 z00 (-9) → V MX9_tells (d + 9) 48 [some (.inr 476), some (.inl 0)] [] g' 0 0 R)
/-- one item of the model's loop -/
theorem tells48 {i : Nat} (hT : TXM g1 b c) (hI : MI g1 g b c p node n nw nd wi sn ns code cm op) (hs : tso b c p ≠ 4) (k : Ex MX9_readsItem (d + 8) [.inr 476] g 0 0 (fun v h2 => V MX9_tells (d + 9) 69 [some (.inr 476), some (.inl (i : Int))] (v.toList ++ []) h2 0 0 R)) : V MX9_tells (d + 9) 48 [some (.inr 476), some (.inl (i : Int))] [] g 0 0 R := by
  have hM := (hI.txm hT).1
  apply bX9_tells_48
  case e3 => intro _ _; exact k
  case e1 => intro z; exact absurd hI.2.2.1 z
  case q1 => intro z; exact absurd hI.2.2.1 z
  case e2 => rw [hI.2.1.2.2.2.1]; intro _ z; exact absurd z hs
  case q2 => rw [hI.2.1.2.2.2.1]; intro _ z; exact absurd z hs
  all_goals first
    | exact hM.x
    | (intro z; exact absurd hI.2.2.1 z)
    | (rw [hI.2.1.2.2.2.1]; intro _ z; exact absurd z hs)
/-- the model's answer to a fault -/
theorem tells69f {i : Nat} (hi : i ≤ 200) (hc : c ≤ 160) (hfc : f ≤ c) (hT : TXM g1 b c) (hF : FI g1 g f) (hk : ∀ g', FI g1 g' f → R (some (.inl (-10 - (f : Int)))) g') : V MX9_tells (d + 9) 69 [some (.inr 476), some (.inl (i : Int))] [] g 0 0 R := by
  have hM := hF.mk hT
  have h20 := hF.2
  apply bX9_tells_69
  case r1 => exact ⟨by omega, by omega⟩
  case k1 =>
    apply bX9_tells_48
    case q1 => rw [h20]; intro _ _; exact hk g hF
    case e1 => intro z z2; exact absurd z2 z
    case e2 => intro z; exact absurd z hF.ne
    case e3 => intro z; exact absurd z hF.ne
    case q2 => intro z; exact absurd z hF.ne
    all_goals first
      | exact hM.x
      | (intro z; exact absurd z hF.ne)
      | (rw [h20]; intros; exact ⟨by omega, by omega⟩)
theorem eX5_read {h1 : jH} (hR : (jS h 49).1 = 5 ∧ jP h 49 0 = 3) (hT : TXC h b c) (hK : DK h D) (hY : DY h D) (hDD : D = 5 ∨ D = 27) : Ex MX5_read (d + 13 + 11) [.inr 49, .inr D] h 0 0 (RPost (jsP h 49 1 D) D b c) := by
  have hby := hT.2.2.2.2.1
  have hc := hby.1
  have p49 : ∀ a k, a ≠ 49 → jP (jsP h 49 1 D) a k = jP h a k := fun a k ha => by rw [jP_sP, if_neg (by omega)]
  refine Ex_of_V tX5_read (Nat.le_of_ble_eq_true rfl) ?_
  apply bX5_read_0
  case e1 =>
    refine Ex_of_V tX2_empty (Nat.le_of_ble_eq_true rfl) ?_
    apply bX2_empty_0
    case s1 => exact hK.1
    case q1 =>
      have hR1 : RDC (jsI (jsI (jsI (jsI (jsP h 49 1 D) D 0 0) D 1 0) D 2 0) D 3 0) D := by
        refine ⟨hR.1, ?_, ?_⟩
        · show jP (jsP h 49 1 D) 49 0 = 3; rw [jP_sP, if_neg (by omega)]; exact hR.2
        · show jP (jsP h 49 1 D) 49 1 = D; rw [jP_sP, if_pos ⟨rfl, rfl⟩]
      apply bX5_read_12
      case e1 =>
        rw [hR1.2.1]
        refine Ex_of_V tX7_toFirst (Nat.le_of_ble_eq_true rfl) ?_
        apply bX7_toFirst_0
        case s1 => exact hT.1
        case e1 =>
          generalize hg1 : jsI (jsI (jsI (jsI (jsI (jsI (jsP h 49 1 D) D 0 0) D 1 0) D 2 0) D 3 0) 49 2 (-1)) 3 3 0 = gg
          have fr1 : IFr D (jsP h 49 1 D) gg := by
            rw [← hg1]
            exact (((((IFr.sI (by omega)).trans (IFr.sI (by omega))).trans (IFr.sI (by omega))).trans (IFr.sI (by omega))).trans IFr.s49).trans (IFr.s3 (by omega))
          have gP : jP gg = jP (jsP h 49 1 D) := fr1.1
          have gS : jS gg = jS h := fr1.2.1
          have hR2 : RDC gg D := by unfold RDC; rw [gP, gS]; exact hR1
          have hT2 : TXC gg b c := by
            unfold TXC
            rw [gP, gS, p49 3 0 (by omega), fr1.2.2.2.2.2.2 1 (by omega), fr1.2.2.2.2.1 4 (by omega)]
            exact hT
          have hK2 : DK gg D := by
            unfold DK at hK ⊢
            rw [gP, gS]
            simp only [p49 D _ (show D ≠ 49 by omega)]
            exact hK
          have hY2 : DY gg D := by unfold DY; rw [fr1.2.2.2.1]; exact hY
          have i33 : jI gg 3 3 = ((0 : Nat) : Int) := by rw [← hg1, jI_sI, if_pos ⟨rfl, rfl⟩]; rfl
          have iD : ∀ k, k < 4 → jI gg D k = 0 := by
            intro k hk
            rw [← hg1, jI_sI, if_neg (by omega), jI_sI, if_neg (by omega), jI_sI]
            by_cases z3 : k = 3
            · rw [if_pos ⟨rfl, z3⟩]
            · rw [if_neg (fun y => z3 y.2), jI_sI]
              by_cases z2 : k = 2
              · rw [if_pos ⟨rfl, z2⟩]
              · rw [if_neg (fun y => z2 y.2), jI_sI]
                by_cases z1 : k = 1
                · rw [if_pos ⟨rfl, z1⟩]
                · rw [if_neg (fun y => z1 y.2), jI_sI, if_pos ⟨rfl, by omega⟩]
          have i49 : jI gg 49 2 = -1 := by rw [← hg1, jI_sI, if_neg (by omega), jI_sI, if_pos ⟨rfl, rfl⟩]
          refine Ex.mono (eX7_toNext hT2 (Nat.zero_le c) i33) ?_
          rintro r g2 ⟨rfl, f2, hp2⟩
          have hC : CI g2 D b c (tsk b c 0) z00 0 0 0 z00 z00 0 z00 z00 (-9) := by
            refine ⟨hR2.tf f2, hT2.tf f2, hp2, hK2.tf f2, ?_, hDD, ⟨?_, ?_, ?_, ?_, fun k hk => absurd hk (Nat.not_lt_zero _), fun k hk => absurd hk (Nat.not_lt_zero _)⟩, ?_, ?_, Or.inl rfl⟩
            · unfold DY; rw [f2.2.2.2.1]; exact hY2
            · rw [f2.2.2.2.2.2.1 D (by omega)]; exact iD 0 (by omega)
            · rw [f2.2.2.2.2.2.1 D (by omega)]; exact iD 1 (by omega)
            · rw [f2.2.2.2.2.2.1 D (by omega)]; exact iD 2 (by omega)
            · rw [f2.2.2.2.2.2.1 D (by omega)]; exact iD 3 (by omega)
            · refine ⟨by omega, by omega, by omega, by omega, fun k hk => absurd hk (Nat.not_lt_zero _), fun k k' hk => absurd hk (Nat.not_lt_zero _), fun k hk => absurd hk (Nat.not_lt_zero _), fun j k hj => absurd hj (Nat.not_lt_zero _), fun j k hj => absurd hj (Nat.not_lt_zero _), fun j k hj => absurd hj (Nat.not_lt_zero _)⟩
            · rw [f2.2.2.2.2.2.1 49 (by omega)]; exact i49
          have fr2 : IFr D (jsP h 49 1 D) g2 := fr1.trans f2.ifr
          clear hg1
          apply bX7_toFirst_9
          apply bX5_read_24
          -- the items
          have loop : ∀ w p : Nat, p + w = c → ∀ (i : Nat) (h2 : jH) (n nw nd ns : Nat) (node wi sn code cm : Nat → Int) (op : Int), i ≤ p → CI h2 D b c p node n nw nd wi sn ns code cm op → IFr D (jsP h 49 1 D) h2 → LK9 b c p i node n nw nd wi sn ns code cm op → V MX5_read (d + 13 + 11) 26 [some (.inr 49), some (.inr D), some (.inl (i : Int))] [] h2 0 0 (RPost (jsP h 49 1 D) D b c) := by
            intro w
            induction w using Nat.strongRecOn with
            | ind w ih =>
              intro p hw i h2 n nw nd ns node wi sn code cm op hi hC2 fr hL
              have esg : jI h2 (jP h2 49 0) 4 = tsg b c p := by rw [hC2.1.2.1]; exact hC2.2.2.1.2.2.2
              have hle := lk_e (b := b) (c := c) (p := p) hby
              have done : ¬ p < c → RPost (jsP h 49 1 D) D b c (some (.inl (i : Int))) h2 := fun z => Or.inl ⟨i, p, n, nw, nd, ns, node, wi, sn, code, cm, op, rfl, by omega, hC2, hle.2.mpr z, fr, hL⟩
              apply bX5_read_26
              case q1 => intro z; exact done (by omega)
              case q2 => rw [esg]; intro _ z; exact done (hle.1.mp z)
              case e1 =>
                rw [esg]
                intro _ z
                have hp : p < c := by
                  apply Classical.byContradiction
                  intro y
                  exact z (hle.1.mpr y)
                have hs4 : tso b c p ≠ 4 := fun y => (hle.2.mp y) hp
                refine Ex.mono (eX5_readItem hC2 hp) ?_
                rintro r h3 (⟨rfl, q, n', nw', nd', ns', node', wi', sn', code', cm', op', hC3, fr3, hpq, hmod⟩ | ⟨rfl, f, fr3, hf, hmod⟩)
                · have hq3 := hC3.2.2.1.1
                  apply bX5_read_49
                  case q1 => intro y; exact absurd y (by decide)
                  case r1 => intro _; exact ⟨by omega, by omega⟩
                  case k1 =>
                    intro _
                    rw [show (i : Int) + 1 = ((i + 1 : Nat) : Int) by omega]
                    refine ih (c - q) (by omega) q (by omega) (i + 1) h3 n' nw' nd' ns' node' wi' sn' code' cm' op' (by omega) hC3 (fr.trans fr3) ?_
                    intro d' g1 R hTM hk g' hI
                    refine hL d' g1 R hTM (fun g3 hI3 => ?_) g' hI
                    refine tells48 hTM hI3 hs4 (hmod d' g1 _ hTM (fun g4 hI4 => ?_) g3 hI3)
                    apply bX9_tells_69
                    case r1 => exact ⟨by omega, by omega⟩
                    case k1 =>
                      rw [show (i : Int) + 1 = ((i + 1 : Nat) : Int) by omega]
                      exact hk g4 hI4
                · apply bX5_read_49
                  case q1 =>
                    intro _
                    refine Or.inr ⟨rfl, f, fr.trans fr3, hf, fun d' g1 R hTM hk g' hI => ?_⟩
                    refine hL d' g1 R hTM (fun g3 hI3 => ?_) g' hI
                    refine tells48 hTM hI3 hs4 (hmod d' g1 _ hTM (fun g4 hF4 => ?_) g3 hI3)
                    exact tells69f (by omega) hc hf.2 hTM hF4 hk
                  case r1 => intro y; exact absurd rfl y
                  case k1 => intro y; exact absurd rfl y
              all_goals first
                | exact hC2.1.1
                | (rw [hC2.1.2.1]; exact hC2.2.1.1)
          exact loop (c - tsk b c 0) (tsk b c 0) (by have := hp2.1; omega) 0 g2 0 0 0 0 _ _ _ _ _ _ (Nat.zero_le _) hC fr2 (fun d' g1 R _ hk g' hI => hk g' hI)
      all_goals first
        | exact hR1.1
        | (rw [hR1.2.1]; exact hT.1)
  all_goals first
    | exact hR.1
    | exact hK.1
end ND
