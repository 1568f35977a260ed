/-! ===== both sides: a path ===== -/
section MP
variable {h g : jH} {b : Nat → Int} {c : Nat} {node wi sn code cm : Nat → Int} {n nw nd ns D : Nat}
theorem eX9_passes_f {d : Nat} {x : Int} (hM : MK h) (hf : jI h 476 20 ≠ -9) : Ex MX9_passes (d + 3) [.inr 476, .inl x] h 0 0 (fun r g => r = none ∧ g = h) := by
  refine Ex_of_V tX9_passes (Nat.le_of_ble_eq_true rfl) ?_
  apply bX9_passes_0
  case e1 =>
    refine Ex.mono (eX9_due hM) ?_
    rintro r g ⟨rfl, rfl⟩
    rw [if_neg (fun y => hf y.2)]
    apply bX9_passes_5
    case q1 => intro _; exact ⟨rfl, rfl⟩
    case e1 => intro z; exact absurd z hf
    all_goals exact hM.x
  all_goals exact hM.x
theorem eX9_passes_n {d : Nat} (hM : MK h) (hf : jI h 476 20 = -9) (h17 : jI h 476 17 ≠ -9) : Ex MX9_passes (d + 3) [.inr 476, .inl 0] h 0 0 (fun r g => r = none ∧ g = jsI h 476 20 (jI h 476 17)) := by
  refine Ex_of_V tX9_passes (Nat.le_of_ble_eq_true rfl) ?_
  apply bX9_passes_0
  case e1 =>
    refine Ex.mono (eX9_due hM) ?_
    rintro r g ⟨rfl, rfl⟩
    rw [if_pos ⟨rfl, hf⟩]
    apply bX9_passes_5
    case q1 => intro _; exact ⟨rfl, rfl⟩
    case e1 => rw [jI_sI, if_pos ⟨rfl, rfl⟩]; intro z; exact absurd z h17
    all_goals exact hM.x
  all_goals exact hM.x
theorem eX9_passes_y {d p : Nat} {x : Int} (hT : TXM h b c) (hP : TXQ h b c p) (hf : jI h 476 20 = -9) (hx : x ≠ 0) : Ex MX9_passes (d + 3) [.inr 476, .inl x] h 0 0 (fun r g => r = none ∧ MF nuP nuF h g ∧ TXQ g b c (tnx b c p)) := by
  have hM := hT.1
  refine Ex_of_V tX9_passes (Nat.le_of_ble_eq_true rfl) ?_
  apply bX9_passes_0
  case e1 =>
    refine Ex.mono (eX9_due hM) ?_
    rintro r g ⟨rfl, rfl⟩
    rw [if_neg (fun y => hx y.1)]
    apply bX9_passes_5
    case q1 => intro z; exact absurd hf z
    case e1 =>
      intro _
      refine Ex.mono (eX9_next hT (ten_b hP.1).1 hP.2.1) ?_
      rintro r g ⟨rfl, f, hq⟩
      apply bX9_passes_18
      exact ⟨rfl, f, hq⟩
    all_goals exact hM.x
  all_goals exact hM.x
/-- what is told so far, as the model has it -/
def NDR (g : jH) (node : Nat → Int) (n : Nat) (wi sn : Nat → Int) (ns : Nat) : Prop :=
  jI g 476 22 = (n : Int) ∧ jI g 476 27 = (ns : Int) ∧ (∀ k, k < 6 * n → jX g 487 k = node k) ∧ ∀ k, k < ns → jX g 488 k = wi k ∧ jX g 489 k = sn k
theorem NDR.mf {P F : Nat → Prop} (hN : NDR g node n wi sn ns) {k : jH} (f : MF P F g k) (h1 : ¬ P 487) (h2 : ¬ P 488) (h3 : ¬ P 489) (h4 : ¬ F 22) (h5 : ¬ F 27) : NDR k node n wi sn ns := by
  unfold NDR
  rw [f.2.2.2.2.1 487 h1, f.2.2.2.2.1 488 h2, f.2.2.2.2.1 489 h3, f.2.2.2.2.2.2 22 h4, f.2.2.2.2.2.2 27 h5]
  exact hN
/-- a path from the token at p, in the scope x: the signal, or -9, and where the text stands then -/
def ppf (node : Nat → Int) (n : Nat) (wi sn : Nat → Int) (ns : Nat) (b : Nat → Int) (c : Nat) : Nat → Nat → Int → Int × Nat
  | 0, p, _ => (-9, p)
  | k + 1, p, x => if tso b c p = 1 then (if fN node n x (tva b c p) ≠ -9 then (fN node n x (tva b c p), tnx b c p)
      else if fS wi sn ns x (tva b c p) ≠ -9 then (if tso b c (tnx b c p) = 3 ∧ tva b c (tnx b c p) = 46 then ppf node n wi sn ns b c k (tnx b c (tnx b c p)) (fS wi sn ns x (tva b c p)) else (-9, tnx b c p)) else (-9, p)) else (-9, p)
section MPa
variable {p k : Nat} {x : Int}
theorem ppf_0 (h1 : tso b c p ≠ 1) : ppf node n wi sn ns b c (k + 1) p x = (-9, p) := by
  unfold ppf; rw [if_neg h1]
theorem ppf_1 (h1 : tso b c p = 1) (h2 : fN node n x (tva b c p) ≠ -9) : ppf node n wi sn ns b c (k + 1) p x = (fN node n x (tva b c p), tnx b c p) := by
  unfold ppf; rw [if_pos h1, if_pos h2]
theorem ppf_2 (h1 : tso b c p = 1) (h2 : fN node n x (tva b c p) = -9) (h3 : fS wi sn ns x (tva b c p) = -9) : ppf node n wi sn ns b c (k + 1) p x = (-9, p) := by
  unfold ppf; rw [if_pos h1, if_neg (fun y => y h2), if_neg (fun y => y h3)]
theorem ppf_3 (h1 : tso b c p = 1) (h2 : fN node n x (tva b c p) = -9) (h3 : fS wi sn ns x (tva b c p) ≠ -9) (h4 : ¬ (tso b c (tnx b c p) = 3 ∧ tva b c (tnx b c p) = 46)) : ppf node n wi sn ns b c (k + 1) p x = (-9, tnx b c p) := by
  unfold ppf; rw [if_pos h1, if_neg (fun y => y h2), if_pos h3, if_neg h4]
theorem ppf_4 (h1 : tso b c p = 1) (h2 : fN node n x (tva b c p) = -9) (h3 : fS wi sn ns x (tva b c p) ≠ -9) (h4 : tso b c (tnx b c p) = 3 ∧ tva b c (tnx b c p) = 46) : ppf node n wi sn ns b c (k + 1) p x = ppf node n wi sn ns b c k (tnx b c (tnx b c p)) (fS wi sn ns x (tva b c p)) := by
  conv => lhs; unfold ppf
  rw [if_pos h1, if_neg (fun y => y h2), if_pos h3, if_pos h4]
end MPa
/-- the reader, with the design it reads into -/
def RDC (h : jH) (D : Nat) : Prop := (jS h 49).1 = 5 ∧ jP h 49 0 = 3 ∧ jP h 49 1 = D
theorem RDC.tf (hR : RDC h D) (f : TF h g) : RDC g D := by unfold RDC; rw [f.1, f.2.1]; exact hR
theorem DK.tf (hD : DK h D) (f : TF h g) : DK g D := by unfold DK; rw [f.1, f.2.1]; exact hD
theorem DRep.tf (hD : DRep h D node n nw nd wi sn ns code cm) (h3 : D ≠ 3) (f : TF h g) : DRep g D node n nw nd wi sn ns code cm := by
  unfold DRep NRep
  rw [f.2.2.2.2.1, f.2.2.2.2.2.1 D h3]
  exact hD
theorem eX5_readPath {d p : Nat} (hR : RDC h D) (hT : TXC h b c) (hP : TXP h b c p) (hK : DK h D) (hD3 : D ≠ 3) (hD : DRep h D node n nw nd wi sn ns code cm) (hG : DG node n nw nd wi sn ns code cm) :
    Ex MX5_readPath (d + 1) [.inr 49] h 0 0 (fun r g => r = some (.inl (ppf node n wi sn ns b c 5 p (-9)).1) ∧ TF h g ∧ TXP g b c (ppf node n wi sn ns b c 5 p (-9)).2) := by
  have ns6 := hG.2.2.2.1
  have n12 := hG.1
  refine Ex_of_V tX5_readPath (Nat.le_of_ble_eq_true rfl) ?_
  apply bX5_readPath_0
  focus
    have key : ∀ w p : Nat, w ≤ 5 → ∀ (x : Int) (g : jH) u3 u4, (x = -9 ∨ 0 ≤ x) → TF h g → TXP g b c p → V MX5_readPath (d + 1) 4 [some (.inr 49), some (.inl (tp x)), some (.inl ((5 - w : Nat) : Int)), u3, u4] [] g 0 0 (fun r g => r = some (.inl (ppf node n wi sn ns b c w p x).1) ∧ TF h g ∧ TXP g b c (ppf node n wi sn ns b c w p x).2) := by
      intro w
      induction w with
      | zero =>
        intro p _ x g u3 u4 hx f hp
        have hR2 := hR.tf f
        have hT2 := hT.tf f
        apply bX5_readPath_4
        case q1 => intro _; exact ⟨rfl, f, hp⟩
        case e1 => intro z; omega
        case e2 => intro z; omega
        case q2 => intro z; omega
        all_goals first
          | exact hR2.1
          | (rw [hR2.2.1]; exact hT2.1)
          | (rw [hR2.2.2]; exact (hK.tf f).1)
      | succ w ih =>
        intro p hw x g u3 u4 hx f hp
        have hR2 := hR.tf f
        have hT2 := hT.tf f
        have hK2 := hK.tf f
        have hD2 := hD.tf hD3 f
        have el : jlet (jI g (jP g 49 0) 4) = if tso b c p = 1 then tva b c p else -9 := by rw [hR2.2.1, hp.2.2.2]; exact lk_l
        apply bX5_readPath_4
        case q1 => intro z; omega
        case e2 => intro _ _ z; exact absurd rfl z
        case q2 =>
          rw [el]
          intro _ z _
          have hs : tso b c p ≠ 1 := by
            intro y
            rw [if_pos y] at z
            have := tva_name y
            omega
          rw [ppf_0 hs]
          exact ⟨rfl, f, hp⟩
        case e1 =>
          rw [el, hR2.2.2]
          intro _ z
          have hs : tso b c p = 1 := Classical.byContradiction fun y => z (if_neg y)
          have hv := tva_name hs
          rw [if_pos hs]
          refine Ex.mono (eX2_nm hK2 hD2 hG hx) ?_
          rintro r g2 ⟨rfl, rfl⟩
          have hb1 : fN node n x (tva b c p) = -9 ∨ (0 ≤ fN node n x (tva b c p) ∧ fN node n x (tva b c p) < n) := fN_b
          have hb2 : fS wi sn ns x (tva b c p) = -9 ∨ (0 ≤ fS wi sn ns x (tva b c p) ∧ fS wi sn ns x (tva b c p) < ns) := fS_b
          apply bX5_readPath_37
          case q1 =>
            intro y
            have h2 : fN node n x (tva b c p) = -9 := by
              apply Classical.byContradiction
              intro z2
              have : nmv node n wi sn ns x (tva b c p) = fN node n x (tva b c p) := if_pos z2
              omega
            have h3 : fS wi sn ns x (tva b c p) = -9 := by
              apply Classical.byContradiction
              intro z2
              have : nmv node n wi sn ns x (tva b c p) = 100 + fS wi sn ns x (tva b c p) := by unfold nmv nmc; rw [if_neg (by omega), if_pos z2]
              omega
            rw [ppf_2 hs h2 h3]
            exact ⟨rfl, f, hp⟩
          case e1 =>
            intro y
            rw [hR2.2.1]
            refine Ex.mono (eX7_toNext hT2 (ten_b hp.1).1 hp.2.2.1) ?_
            rintro r g3 ⟨rfl, f3, hp3⟩
            have f4 := f.trans f3
            have hR4 := hR.tf f4
            have hT4 := hT.tf f4
            have eg : jI g3 (jP g3 49 0) 4 = tsg b c (tnx b c p) := by rw [hR4.2.1]; exact hp3.2.2.2
            have lk := lk_s (b := b) (c := c) (p := tnx b c p) (x := 46) (by unfold sgn; omega)
            by_cases h2 : fN node n x (tva b c p) = -9
            · have h3 : fS wi sn ns x (tva b c p) ≠ -9 := by
                intro z2
                exact y (by unfold nmv nmc; rw [if_neg (by omega), if_neg (by omega)])
              have e1 : nmv node n wi sn ns x (tva b c p) = 100 + fS wi sn ns x (tva b c p) := by unfold nmv nmc; rw [if_neg (by omega), if_pos h3]
              rw [e1]
              apply bX5_readPath_56
              case q2 => intro z2; omega
              case q1 =>
                rw [eg]
                intro _ z2
                rw [ppf_3 hs h2 h3 (fun z3 => z2 (lk.mpr z3))]
                exact ⟨rfl, f4, hp3⟩
              case e1 =>
                rw [eg]
                intro _ z2
                rw [ppf_4 hs h2 h3 (lk.mp z2), hR4.2.1]
                refine Ex.mono (eX7_toNext hT4 (ten_b hp3.1).1 hp3.2.2.1) ?_
                rintro r g5 ⟨rfl, f5, hp5⟩
                apply bX5_readPath_88
                case k1 =>
                  have h9 := ih (tnx b c (tnx b c p)) (by omega) (fS wi sn ns x (tva b c p)) g5 (some (.inl (tva b c p))) (some (.inl (100 + fS wi sn ns x (tva b c p)))) (by omega) (f4.trans f5) hp5
                  have et : tp (fS wi sn ns x (tva b c p)) = fS wi sn ns x (tva b c p) := by unfold tp; rw [if_neg (by omega)]
                  rw [et] at h9
                  rw [show 100 + fS wi sn ns x (tva b c p) - 100 = fS wi sn ns x (tva b c p) by omega, show ((5 - (w + 1) : Nat) : Int) + 1 = ((5 - w : Nat) : Int) by omega]
                  exact h9
                all_goals exact ⟨by omega, by omega⟩
              all_goals first
                | exact hR4.1
                | (rw [hR4.2.1]; exact hT4.1)
            · have e1 : nmv node n wi sn ns x (tva b c p) = fN node n x (tva b c p) := if_pos h2
              rw [e1]
              apply bX5_readPath_56
              case q2 =>
                intro _
                rw [ppf_1 hs h2]
                exact ⟨rfl, f4, hp3⟩
              case q1 => intro z2; omega
              case e1 => intro z2; omega
              all_goals first
                | exact hR4.1
                | (rw [hR4.2.1]; exact hT4.1)
          all_goals first
            | exact hR2.1
            | (rw [hR2.2.1]; exact hT2.1)
        all_goals first
          | exact hR2.1
          | (rw [hR2.2.1]; exact hT2.1)
          | (rw [hR2.2.2]; exact hK2.1)
    have h9 := key 5 p (by omega) (-9) h none none (Or.inl rfl) TF.rf hP
    exact h9
/-- frames of the model's reading -/
def PP (a : Nat) : Prop := 487 ≤ a ∧ a ≤ 492
def PFd (k : Nat) : Prop := (16 ≤ k ∧ k ≤ 20) ∨ (22 ≤ k ∧ k ≤ 24) ∨ k = 27 ∨ k = 30 ∨ k = 31 ∨ (33 ≤ k ∧ k ≤ 35)
def nuE (k : Nat) : Prop := 16 ≤ k ∧ k ≤ 20
theorem nu_wide (f : MF nuP nuF h g) : MF nuP nuE h g := f.wide (fun a ha => ha) (fun k hk => by unfold nuF at hk; unfold nuE; omega)
theorem eX9_readsPath {d p : Nat} (hT : TXM h b c) (hP : TXQ h b c p) (hf : jI h 476 20 = -9) (hN : NDR h node n wi sn ns) (hG : DG node n nw nd wi sn ns code cm) :
    Ex MX9_readsPath (d + 4) [.inr 476] h 0 0 (fun r g => MF nuP nuE h g ∧ (((ppf node n wi sn ns b c 5 p (-9)).1 ≠ -9 ∧ r = some (.inl (ppf node n wi sn ns b c 5 p (-9)).1) ∧ TXQ g b c (ppf node n wi sn ns b c 5 p (-9)).2 ∧ jI g 476 20 = -9) ∨ ((ppf node n wi sn ns b c 5 p (-9)).1 = -9 ∧ (∃ z, r = some (.inl z)) ∧ jI g 476 20 = ((ppf node n wi sn ns b c 5 p (-9)).2 : Int)))) := by
  have ns6 := hG.2.2.2.1
  have n12 := hG.1
  have stay : ∀ {h g : jH} {v : Int}, MF nuP nuE h g → MF nuP nuE h (jsI g 476 20 v) := fun f => f.trans (MF.sI (by unfold nuE; omega))
  -- a fault: nothing more is done
  have flt : ∀ (f0 : Nat) (g : jH) (i1 : Int) (i2 i3 : Int) (R : Option jA → jH → Prop), MK g → jI g 476 20 = (f0 : Int) → R (some (.inl 0)) g → V MX9_readsPath (d + 4) 70 [some (.inr 476), some (.inl i1), some (.inl i2), some (.inl i3)] [] g 0 0 R := by
    intro f0 g i1 i2 i3 R hM h20 hr
    have hne : jI g 476 20 ≠ -9 := by omega
    have tail : V MX9_readsPath (d + 4) 98 [some (.inr 476), some (.inl i3), some (.inl i2), some (.inl i3)] [] g 0 0 R := by
      apply bX9_readsPath_98
      case e1 =>
        refine Ex.mono (eX9_passes_f hM hne) ?_
        rintro r g2 ⟨rfl, rfl⟩
        apply bX9_readsPath_108
        apply bX9_readsPath_3
        case q1 => intro _; exact hr
        case e1 => intro z; exact absurd z hne
        case e2 => intro z; exact absurd z hne
        all_goals exact hM.x
      all_goals exact hM.x
    apply bX9_readsPath_70
    case e1 =>
      intro _
      refine Ex.mono (eX9_passes_f hM hne) ?_
      rintro r g2 ⟨rfl, rfl⟩
      exact tail
    case e2 => intro z; exact absurd z hne
    case e3 => intro z; exact absurd z hne
    all_goals exact hM.x
  refine Ex_of_V tX9_readsPath (Nat.le_of_ble_eq_true rfl) ?_
  apply bX9_readsPath_0
  have key : ∀ w p : Nat, w ≤ 5 → ∀ (x : Int) (g : jH) u2 u3, (x = -9 ∨ (0 ≤ x ∧ x < ns)) → dep wi ns x + w = 5 → MF nuP nuE h g → TXQ g b c p → jI g 476 20 = -9 → V MX9_readsPath (d + 4) 3 [some (.inr 476), some (.inl x), u2, u3] [] g 0 0 (fun r g => MF nuP nuE h g ∧ (((ppf node n wi sn ns b c w p x).1 ≠ -9 ∧ r = some (.inl (ppf node n wi sn ns b c w p x).1) ∧ TXQ g b c (ppf node n wi sn ns b c w p x).2 ∧ jI g 476 20 = -9) ∨ ((ppf node n wi sn ns b c w p x).1 = -9 ∧ (∃ z, r = some (.inl z)) ∧ jI g 476 20 = ((ppf node n wi sn ns b c w p x).2 : Int)))) := by
    intro w
    induction w with
    | zero =>
      intro p _ x g u2 u3 hx hd
      have := hG.d4 hx
      omega
    | succ w ih =>
      intro p hw x g u2 u3 hx hd f hp h20
      have hT2 := hT.mf f (by unfold nuP; exact id) (by unfold nuE; omega)
      have hM := hT2.1
      have hN2 := hN.mf f (by unfold nuP; exact id) (by unfold nuP; exact id) (by unfold nuP; exact id) (by unfold nuE; omega) (by unfold nuE; omega)
      -- both searches
      have srch : ∀ (g : jH) (R : Option jA → jH → Prop), MK g → NDR g node n wi sn ns → (∀ z1 z2 : Int, (z1 = fN node n x (jI g 476 19)) → z2 = fS wi sn ns x (jI g 476 19) → V MX9_readsPath (d + 4) 48 [some (.inr 476), some (.inl x), some (.inl z1), u3] [.inl z2] g 0 0 R) → V MX9_readsPath (d + 4) 29 [some (.inr 476), some (.inl x), u2, u3] [] g 0 0 R := by
        intro g R hM hN hk
        apply bX9_readsPath_29
        case s1 => exact hM.x
        refine Ex.mono (eX9_newNodeBy (x := x) (c := jI g 476 19) hM hN.1 n12) ?_
        rintro r g2 ⟨⟨z1, rfl, hz1⟩, rfl⟩
        have e1 := fN_u hG (has_cong (f' := fun k => node (6 * k + 3)) (q' := fun k => node (6 * k + 4)) (x' := x) (fun k hk => by
          show (jX g2 487 (6 * k + 3) = x ↔ node (6 * k + 3) = x) ∧ jX g2 487 (6 * k + 4) = node (6 * k + 4)
          rw [hN.2.2.1 (6 * k + 3) (by omega), hN.2.2.1 (6 * k + 4) (by omega)]
          exact ⟨Iff.rfl, rfl⟩) hz1)
        apply bX9_readsPath_38
        case s1 => exact hM.x
        refine Ex.mono (eX9_newScopeBy (x := x) (c := jI g2 476 19) hM hN.2.1 ns6) ?_
        rintro r g3 ⟨⟨z2, rfl, hz2⟩, rfl⟩
        have e2 := fS_u hG (has_cong (f' := wi) (q' := sn) (x' := x) (fun k hk => by
          rw [(hN.2.2.2 k hk).1, (hN.2.2.2 k hk).2]
          exact ⟨Iff.rfl, rfl⟩) hz2)
        exact hk z1 z2 e1 e2
      apply bX9_readsPath_3
      case q1 => intro z; exact absurd h20 z
      case e1 =>
        rw [hp.2.2.2.1]
        intro _ hs
        refine Ex.mono (eX9_due hM) ?_
        rintro r g2 ⟨rfl, rfl⟩
        rw [if_pos ⟨rfl, h20⟩, hp.2.2.1]
        have f2 := stay (v := (p : Int)) f
        have hM2 : MK (jsI g 476 20 (p : Int)) := hM.fr rfl rfl
        have h202 : jI (jsI g 476 20 (p : Int)) 476 20 = (p : Int) := by rw [jI_sI, if_pos ⟨rfl, rfl⟩]
        have hN3 : NDR (jsI g 476 20 (p : Int)) node n wi sn ns := hN2.mf (P := nuP) (F := nuE) (MF.sI (by unfold nuE; omega)) (by unfold nuP; exact id) (by unfold nuP; exact id) (by unfold nuP; exact id) (by unfold nuE; omega) (by unfold nuE; omega)
        rw [ppf_0 hs]
        refine srch _ _ hM2 hN3 (fun z1 z2 _ _ => ?_)
        have noop : ∀ v : Int, Ex MX9_due d [.inr 476, .inl v] (jsI g 476 20 (p : Int)) 0 0 (fun v h2 => V MX9_readsPath (d + 4) 70 [some (.inr 476), some (.inl x), some (.inl z1), some (.inl z2)] (v.toList ++ []) h2 0 0 (fun r g => MF nuP nuE h g ∧ (((((-9 : Int), p) : Int × Nat).1 ≠ -9 ∧ r = some (.inl (((-9 : Int), p) : Int × Nat).1) ∧ TXQ g b c (((-9 : Int), p) : Int × Nat).2 ∧ jI g 476 20 = -9) ∨ ((((-9 : Int), p) : Int × Nat).1 = -9 ∧ (∃ z, r = some (.inl z)) ∧ jI g 476 20 = ((((-9 : Int), p) : Int × Nat).2 : Int))))) := by
          intro v
          refine Ex.mono (eX9_due hM2) ?_
          rintro r g3 ⟨rfl, rfl⟩
          rw [if_neg (fun y => by rw [h202] at y; omega)]
          exact flt p _ _ _ _ _ hM2 h202 ⟨f2, Or.inr ⟨rfl, ⟨_, rfl⟩, h202⟩⟩
        apply bX9_readsPath_48
        case e1 => intro _; exact noop 1
        case e2 => intro _ _; exact noop 0
        case e3 => intro _ _; exact noop 1
        all_goals exact hM2.x
      case e2 =>
        rw [hp.2.2.2.1]
        intro _ hs
        refine Ex.mono (eX9_due hM) ?_
        rintro r gz ⟨rfl, rfl⟩
        have e19 := hp.2.2.2.2 (tso_lt (by rw [hs]; decide))
        refine srch _ _ hM hN2 (fun z1 z2 ez1 ez2 => ?_)
        rw [e19] at ez1 ez2
        subst ez1
        subst ez2
        have hb1 : fN node n x (tva b c p) = -9 ∨ (0 ≤ fN node n x (tva b c p) ∧ fN node n x (tva b c p) < n) := fN_b
        have hb2 : fS wi sn ns x (tva b c p) = -9 ∨ (0 ≤ fS wi sn ns x (tva b c p) ∧ fS wi sn ns x (tva b c p) < ns) := fS_b
        apply bX9_readsPath_48
        case e1 =>
          intro h2
          refine Ex.mono (eX9_due hM) ?_
          rintro r g2 ⟨rfl, rfl⟩
          apply bX9_readsPath_70
          case e1 => intro z; exact absurd h20 z
          case e2 => intro _ z; exact absurd z h2
          case e3 =>
            intro _ _
            refine Ex.mono (eX9_next hT2 (ten_b hp.1).1 hp.2.1) ?_
            rintro r g3 ⟨rfl, f3, hq⟩
            apply bX9_readsPath_89
            rw [ppf_1 hs h2]
            exact ⟨f.trans (nu_wide f3), Or.inl ⟨h2, rfl, hq, by rw [f3.2.2.2.2.2.2 20 (by unfold nuF; omega)]; exact h20⟩⟩
          all_goals exact hM.x
        case e2 =>
          intro h2 h3
          refine Ex.mono (eX9_due hM) ?_
          rintro r g2 ⟨rfl, rfl⟩
          rw [if_pos ⟨rfl, h20⟩, hp.2.2.1, ppf_2 hs h2 h3]
          have hM2 : MK (jsI gz 476 20 (p : Int)) := hM.fr rfl rfl
          have h202 : jI (jsI gz 476 20 (p : Int)) 476 20 = (p : Int) := by rw [jI_sI, if_pos ⟨rfl, rfl⟩]
          exact flt p _ _ _ _ _ hM2 h202 ⟨stay f, Or.inr ⟨rfl, ⟨_, rfl⟩, h202⟩⟩
        case e3 =>
          intro h2 h3
          refine Ex.mono (eX9_due hM) ?_
          rintro r g2 ⟨rfl, rfl⟩
          apply bX9_readsPath_70
          case e1 => intro z; exact absurd h20 z
          case e3 => intro _ z; exact absurd h2 z
          case e2 =>
            intro _ _
            refine Ex.mono (eX9_passes_y hT2 hp h20 (by decide)) ?_
            rintro r g3 ⟨rfl, f3, hq⟩
            have f4 := f.trans (nu_wide f3)
            have hT4 := hT.mf f4 (by unfold nuP; exact id) (by unfold nuE; omega)
            have hM4 := hT4.1
            have h204 : jI g3 476 20 = -9 := by rw [f3.2.2.2.2.2.2 20 (by unfold nuF; omega)]; exact h20
            apply bX9_readsPath_98
            case e1 =>
              by_cases h4 : tso b c (tnx b c p) = 3 ∧ tva b c (tnx b c p) = 46
              · have hlt : tnx b c p < c := tso_lt (by rw [h4.1]; decide)
                have ej : jb (jI g3 476 18 = 3 ∧ jI g3 476 19 = 46) = 1 := by unfold jb; rw [if_pos (by rw [hq.2.2.2.1, hq.2.2.2.2 hlt]; exact h4)]
                rw [ej]
                refine Ex.mono (eX9_passes_y hT4 hq h204 (by decide)) ?_
                rintro r g5 ⟨rfl, f5, hq5⟩
                apply bX9_readsPath_108
                rw [ppf_4 hs h2 h3 h4]
                have hbr := has_b (has_fnd (f := wi) (q := sn) (x := x) (c := tva b c p) ns)
                have hwi : wi (fS wi sn ns x (tva b c p)).toNat = x := by
                  rcases has_fnd (f := wi) (q := sn) (x := x) (c := tva b c p) ns with ⟨k, k1, k2, k3, k4⟩ | ⟨k1, k2⟩
                  · have : fS wi sn ns x (tva b c p) = (k : Int) := k4
                    rw [this, Int.toNat_natCast]; exact k2
                  · exact absurd k2 h3
                have hdp := dep_s (x := fS wi sn ns x (tva b c p)) hG.wiB (by omega) (by omega)
                rw [hwi] at hdp
                exact ih _ (by omega) _ g5 _ _ (by omega) (by omega) (f4.trans (nu_wide f5)) hq5 (by rw [f5.2.2.2.2.2.2 20 (by unfold nuF; omega)]; exact h204)
              · have ej : jb (jI g3 476 18 = 3 ∧ jI g3 476 19 = 46) = 0 := by
                  unfold jb
                  rw [if_neg (fun y => h4 ?_)]
                  have y1 := y.1
                  rw [hq.2.2.2.1] at y1
                  have hlt : tnx b c p < c := tso_lt (by rw [y1]; decide)
                  exact ⟨y1, by rw [← hq.2.2.2.2 hlt]; exact y.2⟩
                rw [ej]
                refine Ex.mono (eX9_passes_n hM4 h204 (by rw [hq.2.2.1]; omega)) ?_
                rintro r g5 ⟨rfl, rfl⟩
                have h205 : jI (jsI g3 476 20 (jI g3 476 17)) 476 20 = (tnx b c p : Int) := by rw [jI_sI, if_pos ⟨rfl, rfl⟩]; exact hq.2.2.1
                have hM5 : MK (jsI g3 476 20 (jI g3 476 17)) := hM4.fr rfl rfl
                apply bX9_readsPath_108
                rw [ppf_3 hs h2 h3 h4]
                apply bX9_readsPath_3
                case q1 => intro _; exact ⟨stay f4, Or.inr ⟨rfl, ⟨_, rfl⟩, h205⟩⟩
                case e1 => rw [h205]; intro z; omega
                case e2 => rw [h205]; intro z; omega
                all_goals exact hM5.x
            all_goals exact hM4.x
          all_goals exact hM.x
        all_goals exact hM.x
      all_goals exact hM.x
  exact key 5 p (by omega) (-9) h none none (Or.inl rfl) (by unfold dep; rw [if_pos (by decide)]) MF.rf hP hf
end MP
