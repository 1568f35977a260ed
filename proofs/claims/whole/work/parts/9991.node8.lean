/-! ===== node, the class ===== -/
section NH
variable {h g h0 g1 gE : jH} {b : Nat → Int} {c : Nat} {node wi sn code cm s past : Nat → Int} {n nw nd ns D d p u : Nat} {x K : Int}
/-- behind a name that stands for m, the next scope -/
def nhm (m : Int) : Int := if 100 ≤ m then m - 100 else -2
def nfd (m : Int) : Int := if m < 100 then m else -9
/-- the answer for the name at p in x, and whether the text is read to its end -/
def ndF (b : Nat → Int) (c : Nat) (node : Nat → Int) (n : Nat) (wi sn : Nat → Int) (ns : Nat) : Nat → Nat → Int → Int × Bool
  | 0, p, _ => (-10 - (p : Int), false)
  | f + 1, p, x => if tso b c p ≠ 1 then (-10 - (p : Int), false) else if tso b c (tnx b c p) = 4 then (nfd (nmv node n wi sn ns x (tva b c p)), true) else
      if tso b c (tnx b c p) = 3 ∧ tva b c (tnx b c p) = 46 then ndF b c node n wi sn ns f (tnx b c (tnx b c p)) (nhm (nmv node n wi sn ns x (tva b c p))) else (-10 - ((tnx b c p : Nat) : Int), false)
theorem tp_iff2 {x y : Int} (hx : x = -9 ∨ 0 ≤ x ∨ x = -2) (hy : y = -9 ∨ 0 ≤ y) : tp y = tp x ↔ y = x := by
  unfold tp
  split <;> split <;> constructor <;> intro z <;> omega
theorem eX2_nm2 {c : Int} (hD : DK h D) (hR : DRep h D node n nw nd wi sn ns code cm) (hG : DG node n nw nd wi sn ns code cm) (hx : x = -9 ∨ 0 ≤ x ∨ x = -2) :
    Ex MX2_named d [.inr D, .inl (tp x), .inl c] h 0 0 (fun r g => r = some (.inl (nmv node n wi sn ns x c)) ∧ g = h) := by
  obtain ⟨r0, r1, r2, r3, r4, r5⟩ := id hR
  obtain ⟨g1, g2, g3, g4, g5, g6, g7, -⟩ := id hG
  refine Ex.mono (eX2_named hD r0 g1 r3 g4) ?_
  rintro r g ⟨⟨z1, z2, h1, h2, rfl⟩, rfl⟩
  refine ⟨?_, rfl⟩
  have e1 := fN_u hG (has_cong (f' := fun k => node (6 * k + 3)) (q' := fun k => node (6 * k + 4)) (x' := x) (fun k hk => by
    have hr := r4 k hk
    have hb := (g5 k hk).2.1
    show (jX g (D + 3) k = tp x ↔ node (6 * k + 3) = x) ∧ jX g (D + 4) k = node (6 * k + 4)
    rw [hr.2.1]
    exact ⟨tp_iff2 hx (by omega), hr.2.2.1⟩) h1)
  have e2 := fS_u hG (has_cong (f' := wi) (q' := sn) (x' := x) (fun k hk => by
    have hr := r5 k hk
    have hb := (g7 k hk).1
    rw [hr.1]
    exact ⟨tp_iff2 hx (by omega), hr.2⟩) h2)
  rw [e1, e2]
  rfl
/-- no scope lies nowhere -/
theorem nmv_2 {c : Int} (hG : DG node n nw nd wi sn ns code cm) : nmv node n wi sn ns (-2) c = -9 := by
  have e1 : fN node n (-2) c = -9 := by
    rcases has_fnd (f := fun k => node (6 * k + 3)) (q := fun k => node (6 * k + 4)) (x := -2) (c := c) n with ⟨k, k1, k2, k3, k4⟩ | ⟨k1, k2⟩
    · have := (hG.2.2.2.2.1 k k1).2.1
      have k2' : node (6 * k + 3) = -2 := k2
      omega
    · exact k2
  have e2 : fS wi sn ns (-2) c = -9 := by
    rcases has_fnd (f := wi) (q := sn) (x := -2) (c := c) ns with ⟨k, k1, k2, k3, k4⟩ | ⟨k1, k2⟩
    · have := (hG.2.2.2.2.2.2.1 k k1).1
      omega
    · exact k2
  unfold nmv
  rw [e1, e2]
  rfl
theorem nmv_b {c : Int} (hG : DG node n nw nd wi sn ns code cm) : nmv node n wi sn ns x c < 100 + 6 ∧ (nmv node n wi sn ns x c = -9 ∨ 0 ≤ nmv node n wi sn ns x c) := by
  have h1 := fN_b (node := node) (n := n) (x := x) (c := c)
  have h2 := fS_b (wi := wi) (sn := sn) (ns := ns) (x := x) (c := c)
  have := hG.1
  have := hG.2.2.2.1
  unfold nmv nmc
  split
  · omega
  · split <;> omega
def NDP (h : jH) (z : Int × Bool) (r : Option jA) (g : jH) : Prop := r = some (.inl z.1) ∧ ∃ g0, TF h g0 ∧ g = if z.2 = true then jsI g0 3 1 0 else g0
theorem TF.xf (f : TF h g) : XF h g := ⟨f.1, f.2.1, f.2.2.1, fun a _ => ⟨by rw [f.2.2.2.2.1], by rw [f.2.2.2.1], fun _ a3 _ => f.2.2.2.2.2.1 a a3⟩, fun k _ => by rw [f.2.2.2.2.2.1 476 (by omega)], f.2.2.2.2.2.2 1 (by omega)⟩
theorem eX8_node (hI : IV h D node n nw nd wi sn ns code cm s past u K) (hT : TXC h b c) :
    Ex MX8_node (d + 2) [.inr 2] h 0 0 (NDP h (ndF b c node n wi sn ns c (tsk b c 0) (-9))) := by
  have hG := hI.dg
  have hc := hT.2.2.2.2.1
  have loop : ∀ f p i : Nat, ∀ x : Int, ∀ g u3 u4, p ≤ c → i ≤ p → c ≤ p + f → (x = -9 ∨ 0 ≤ x ∨ x = -2) → TF h g → TXP g b c p → V MX8_node (d + 2) 11 [some (.inr 2), some (.inl (tp x)), some (.inl (i : Int)), u3, u4] [] g 0 0 (NDP h (ndF b c node n wi sn ns f p x)) := by
    intro f
    induction f with
    | zero =>
      intro p i x g u3 u4 hp hi hf hx hF hP
      have hIg := hI.xf hF.xf
      have hxg := hIg.x
      have e4 : tso b c p = 4 := (lk_e hc).2.mpr (by omega)
      have el : jlet (jI g (jP g 2 0) 4) = -9 := by rw [hxg.p0, hP.2.2.2, lk_l, if_neg (by omega)]
      have e2 : jI g (jP g 2 0) 2 = (p : Int) := by rw [hxg.p0]; exact hP.2.1
      have hc1 := hc.1
      apply bX8_node_11
      case q1 => intro _; rw [e2]; exact ⟨rfl, g, hF, rfl⟩
      case q2 => intro _ _; rw [e2]; exact ⟨rfl, g, hF, rfl⟩
      case e1 => intro _ z; exact absurd el z
      case s1 => exact hxg.s2
      case s2 => rw [hxg.p0]; exact hxg.t3.1
      case s3 => exact hIg.dk
      all_goals (rw [e2]; intros; exact ⟨by omega, by omega⟩)
    | succ f ih =>
      intro p i x g u3 u4 hp hi hf hx hF hP
      have hIg := hI.xf hF.xf
      have hxg := hIg.x
      have hTg := hT.tf hF
      have e2 : jI g (jP g 2 0) 2 = (p : Int) := by rw [hxg.p0]; exact hP.2.1
      have el : jlet (jI g (jP g 2 0) 4) = if tso b c p = 1 then tva b c p else -9 := by rw [hxg.p0, hP.2.2.2]; exact lk_l
      have hc1 := hc.1
      by_cases z1 : tso b c p = 1
      · have hpc : p < c := tso_lt (b := b) (by rw [z1]; decide)
        have tv := tva_name z1
        rw [if_pos z1] at el
        apply bX8_node_11
        case q1 => intro z; omega
        case r1 => intro z; omega
        case q2 => rw [el]; intro _ z; omega
        case r2 => rw [el]; intro _ z; omega
        case s1 => exact hxg.s2
        case s2 => rw [hxg.p0]; exact hxg.t3.1
        case s3 => exact hIg.dk
        case e1 =>
          intro _ _
          rw [el, hIg.dd.2.1]
          refine Ex.mono (eX2_nm2 hIg.dd.2.2.1 hIg.dr hG hx) ?_
          rintro r g2 ⟨rfl, rfl⟩
          have hm := nmv_b (x := x) (c := tva b c p) hG
          generalize hmm : nmv node n wi sn ns x (tva b c p) = m at hm
          apply bX8_node_52
          case s1 => exact hxg.s2
          case s2 => rw [hxg.p0]; exact hxg.t3.1
          case e1 =>
            rw [hxg.p0]
            refine Ex.mono (eX7_toNext hTg (ten_b hp).1 hP.2.2.1) ?_
            rintro r g3 ⟨rfl, f3, hp3⟩
            have hF3 := hF.trans f3
            have hx3 := (hI.xf hF3.xf).x
            have hT3 := hT.tf hF3
            have hp3' : TXP g3 b c (tnx b c p) := hp3
            have hq := tnx_b (b := b) hp
            have e3 : jI g3 (jP g3 2 0) 2 = ((tnx b c p : Nat) : Int) := by rw [hx3.p0]; exact hp3'.2.1
            have e34 : jI g3 (jP g3 2 0) 4 = tsg b c (tnx b c p) := by rw [hx3.p0]; exact hp3'.2.2.2
            have le1 := (lk_e (p := tnx b c p) hc).1
            have le2 := (lk_e (p := tnx b c p) hc).2
            have ls := lk_s (b := b) (c := c) (p := tnx b c p) (x := 46) (by unfold sgn; omega)
            have hu : ndF b c node n wi sn ns (f + 1) p x = if tso b c (tnx b c p) = 4 then (nfd m, true) else
                if tso b c (tnx b c p) = 3 ∧ tva b c (tnx b c p) = 46 then ndF b c node n wi sn ns f (tnx b c (tnx b c p)) (nhm m) else (-10 - ((tnx b c p : Nat) : Int), false) := by
              show (if tso b c p ≠ 1 then _ else _) = _
              rw [if_neg (fun z => z z1), hmm]
            rw [hu]
            apply bX8_node_61
            case s1 => exact hx3.s2
            case s2 => rw [hx3.p0]; exact hx3.t3.1
            case e2 =>
              rw [e34, hx3.p0]
              intro z
              rw [if_pos (le2.mpr (le1.mp z))]
              refine Ex_of_V tX7_empty (Nat.le_of_ble_eq_true rfl) ?_
              apply bX7_empty_0
              case s1 => exact hx3.t3.1
              case q1 =>
                apply bX8_node_80
                case q1 => intro y; exact ⟨by unfold nfd; rw [if_neg (by omega)], g3, hF3, rfl⟩
                case q2 => intro y; exact ⟨by unfold nfd; rw [if_pos (by omega)], g3, hF3, rfl⟩
            case e1 =>
              rw [e34, hx3.p0]
              intro y z
              rw [if_neg (fun w => y (le1.mpr (le2.mp w))), if_pos (ls.mp z)]
              refine Ex.mono (eX7_toNext hT3 (ten_b hp3'.1).1 hp3'.2.2.1) ?_
              rintro r g4 ⟨rfl, f4, hp4⟩
              have hp4' : TXP g4 b c (tnx b c (tnx b c p)) := hp4
              have hqc : tnx b c p < c := by
                by_cases w : tnx b c p < c
                · exact w
                · exact absurd (le1.mpr w) y
              have hq2 := tnx_b (b := b) hp3'.1
              have next : ∀ v w, V MX8_node (d + 2) 11 [some (.inr 2), some (.inl (nhm m)), some (.inl ((i : Int) + 1)), v, w] [] g4 0 0 (NDP h (ndF b c node n wi sn ns f (tnx b c (tnx b c p)) (nhm m))) := by
                intro v w
                have hh : nhm m = -9 ∨ 0 ≤ nhm m ∨ nhm m = -2 := by unfold nhm; split <;> omega
                have ht : tp (nhm m) = nhm m := by unfold tp nhm; split <;> split <;> omega
                have := ih (tnx b c (tnx b c p)) (i + 1) (nhm m) g4 v w hp4'.1 (by omega) (by omega) hh (hF3.trans f4) hp4'
                rw [ht] at this
                exact this
              apply bX8_node_125
              case r1 => intro _; exact ⟨by omega, by omega⟩
              case r2 => intro _; exact ⟨by omega, by omega⟩
              case r3 => intro _; exact ⟨by omega, by omega⟩
              case k1 => intro w; have := next (some (.inl (tva b c p))) (some (.inl m)); unfold nhm at this; rw [if_neg (by omega)] at this; unfold nhm; rw [if_neg (by omega)]; exact this
              case k2 => intro w; have := next (some (.inl (tva b c p))) (some (.inl m)); unfold nhm at this; rw [if_pos (by omega)] at this; unfold nhm; rw [if_pos (by omega)]; exact this
            case q1 =>
              rw [e34, e3]
              intro y z
              rw [if_neg (fun w => y (le1.mpr (le2.mp w))), if_neg (fun w => z (ls.mpr w))]
              exact ⟨rfl, g3, hF3, rfl⟩
            case r1 => rw [e3]; intros; exact ⟨by omega, by omega⟩
      · rw [if_neg z1] at el
        have hu : ndF b c node n wi sn ns (f + 1) p x = (-10 - (p : Int), false) := by
          show (if tso b c p ≠ 1 then _ else _) = _
          rw [if_pos z1]
        rw [hu]
        apply bX8_node_11
        case q1 => intro _; rw [e2]; exact ⟨rfl, g, hF, rfl⟩
        case q2 => intro _ _; rw [e2]; exact ⟨rfl, g, hF, rfl⟩
        case e1 => intro _ z; exact absurd el z
        case s1 => exact hxg.s2
        case s2 => rw [hxg.p0]; exact hxg.t3.1
        case s3 => exact hIg.dk
        all_goals (rw [e2]; intros; exact ⟨by omega, by omega⟩)
  have hx := hI.x
  refine Ex_of_V tX8_node (Nat.le_of_ble_eq_true rfl) ?_
  apply bX8_node_0
  case s1 => exact hx.s2
  case s2 => rw [hx.p0]; exact hx.t3.1
  case e1 =>
    rw [hx.p0]
    refine Ex_of_V tX7_toFirst (Nat.le_of_ble_eq_true rfl) ?_
    apply bX7_toFirst_0
    case s1 => exact hx.t3.1
    case e1 =>
      have f1 : TF h (jsI h 3 3 0) := TF.sI (by omega)
      refine Ex.mono (eX7_toNext (e := 0) (hT.tf f1) (Nat.zero_le c) (by rw [jI_sI, if_pos ⟨rfl, rfl⟩]; rfl)) ?_
      rintro r g2 ⟨rfl, f2, hp2⟩
      apply bX7_toFirst_9
      apply bX8_node_9
      exact loop c (tsk b c 0) 0 (-9) g2 _ _ hp2.1 (by omega) (by omega) (Or.inl rfl) (f1.trans f2) hp2
end NH
