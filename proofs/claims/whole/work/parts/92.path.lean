/-! ===== both sides: path ===== -/
section ML
variable {h g : jH} {node wi sn code cm s past : Nat → Int} {n nw nd ns u D : Nat} {K x c : Int}
/-- the scope m steps out of x -/
def an (wi : Nat → Int) (x : Int) : Nat → Int
  | 0 => x
  | m + 1 => wi (an wi x m).toNat
theorem an_s {m : Nat} : an wi x (m + 1) = an wi (wi x.toNat) m := by
  induction m with
  | zero => rfl
  | succ m ih => show wi (an wi x (m + 1)).toNat = wi (an wi (wi x.toNat) m).toNat; rw [ih]
/-- how many scopes lie around -/
def dep (wi : Nat → Int) (ns : Nat) (x : Int) : Nat := if x < 0 then 0 else de wi ns x.toNat
theorem de_st {i : Nat} : ∀ k, i < k → ∀ m, de wi (k + m) i = de wi k i := by
  intro k hk m
  induction m with
  | zero => rfl
  | succ m ih =>
    rw [← ih]
    show (if i = k + m then _ else de wi (k + m) i) = _
    rw [if_neg (by omega)]
theorem de_at {k : Nat} : de wi (k + 1) k = if wi k < 0 then 1 else de wi k (wi k).toNat + 1 := by
  show (if k = k then (if wi k < 0 then 1 else de wi k (wi k).toNat + 1) else de wi k k) = _
  rw [if_pos rfl]
theorem dep_s (hw : ∀ k, k < ns → wi k = -9 ∨ (0 ≤ wi k ∧ wi k < k)) (h0 : 0 ≤ x) (h1 : x < ns) : dep wi ns x = dep wi ns (wi x.toNat) + 1 := by
  have hx := hw x.toNat (by omega)
  unfold dep
  rw [if_neg (by omega)]
  have e1 := de_st (wi := wi) (x.toNat + 1) (Nat.lt_succ_self x.toNat) (ns - (x.toNat + 1))
  rw [show x.toNat + 1 + (ns - (x.toNat + 1)) = ns by omega] at e1
  rw [e1, de_at]
  by_cases q : wi x.toNat < 0
  · rw [if_pos q, if_pos q]
  · rw [if_neg q, if_neg q]
    have e2 := de_st (wi := wi) (i := (wi x.toNat).toNat) x.toNat (by omega) (ns - x.toNat)
    rw [show x.toNat + (ns - x.toNat) = ns by omega] at e2
    rw [e2]
theorem an_b (hw : ∀ k, k < ns → wi k = -9 ∨ (0 ≤ wi k ∧ wi k < k)) : ∀ (m : Nat) (x : Int), (x = -9 ∨ (0 ≤ x ∧ x < ns)) → (m < dep wi ns x → 0 ≤ an wi x m ∧ an wi x m < ns) ∧ (m = dep wi ns x → an wi x m = -9)
  | 0, x, hx => by
    rcases hx with rfl | hx
    · exact ⟨fun q => absurd q (by unfold dep; rw [if_pos (by decide)]; omega), fun _ => rfl⟩
    · refine ⟨fun _ => hx, fun q => ?_⟩
      rw [dep_s hw hx.1 hx.2] at q
      omega
  | m + 1, x, hx => by
    rcases hx with rfl | hx
    · have e0 : dep wi ns (-9) = 0 := by unfold dep; rw [if_pos (by decide)]
      exact ⟨fun q => by omega, fun q => by omega⟩
    · rw [an_s, dep_s hw hx.1 hx.2]
      have h1 := hw x.toNat (by omega)
      have h2 := an_b hw m (wi x.toNat) (by omega)
      exact ⟨fun q => h2.1 (by omega), fun q => h2.2 (by omega)⟩
/-- the class's count of scopes -/
theorem eX2_depth {d : Nat} (hD : DK h D) (hr : ∀ k, k < ns → jX h (D + 5) k = tp (wi k)) (ns6 : ns ≤ 6) (hw : ∀ k, k < ns → wi k = -9 ∨ (0 ≤ wi k ∧ wi k < k)) (hx : x = -9 ∨ (0 ≤ x ∧ x < ns)) (h4 : dep wi ns x ≤ 4) :
    Ex MX2_depth d [.inr D, .inl (tp x)] h 0 0 (fun r g => r = some (.inl (dep wi ns x : Int)) ∧ g = h) := by
  obtain ⟨e0, e1, e2, e3, e4, e5, e6, e7, e8, e9, e10, e11, e12, e13, e14, e15, e16, e17, e18, e19⟩ := hD
  refine Ex_of_V tX2_depth (Nat.le_of_ble_eq_true rfl) ?_
  apply bX2_depth_0
  have key : ∀ w m : Nat, m + w = dep wi ns x → V MX2_depth d 4 [some (.inr D), some (.inl (tp x)), some (.inl (m : Int)), some (.inl (tp (an wi x m)))] [] h 0 0 (fun r g => r = some (.inl (dep wi ns x : Int)) ∧ g = h) := by
    intro w
    induction w with
    | zero =>
      intro m hm
      have hm' : m = dep wi ns x := by omega
      have ha := (an_b hw m x hx).2 hm'
      rw [ha]
      apply bX2_depth_4
      case q1 => intro _; rw [hm']; exact ⟨rfl, rfl⟩
      case q2 => intro z; exact absurd (show tp (-9) < 0 by decide) z
      all_goals first
        | exact e0
        | (rw [e5, e14]; done)
        | (intro z; exact absurd (show tp (-9) < 0 by decide) z)
    | succ w ih =>
      intro m hm
      have ha := (an_b hw m x hx).1 (by omega)
      have et : tp (an wi x m) = an wi x m := by unfold tp; rw [if_neg (by omega)]
      rw [et]
      apply bX2_depth_4
      case q1 => intro z; omega
      case q2 => intro _ z; omega
      case k1 =>
        intro _ _
        rw [e5, hr _ (by omega), show (m : Int) + 1 = ((m + 1 : Nat) : Int) by omega]
        exact ih (m + 1) (by omega)
      all_goals first
        | exact e0
        | (rw [e5, e14]; done)
        | (intros; exact ⟨by omega, by omega⟩)
        | (intros; omega)
        | (intros; rw [e5, e14]; refine Int.lt_of_le_of_lt (b := 5) ?_ (by decide); omega)
  exact key (dep wi ns x) 0 (by omega)
/-- the name at this depth -/
def ptv (node : Nat → Int) (wi sn : Nat → Int) (ns a : Nat) (k : Int) : Int :=
  if (dep wi ns (node (6 * a + 3)) : Int) < k then -9 else if k = (dep wi ns (node (6 * a + 3)) : Int) then node (6 * a + 4) else sn (an wi (node (6 * a + 3)) (dep wi ns (node (6 * a + 3)) - 1 - k.toNat)).toNat
theorem DG.wiB (hG : DG node n nw nd wi sn ns code cm) : ∀ k, k < ns → wi k = -9 ∨ (0 ≤ wi k ∧ wi k < k) := fun k hk => (hG.2.2.2.2.2.2.1 k hk).1
theorem DG.d4 (hG : DG node n nw nd wi sn ns code cm) (hx : x = -9 ∨ (0 ≤ x ∧ x < ns)) : dep wi ns x ≤ 4 := by
  unfold dep
  split
  · omega
  · exact (hG.2.2.2.2.2.2.1 x.toNat (by omega)).2.2.2
theorem eX2_pathName {d a : Nat} {k : Int} (hD : DK h D) (hR : DRep h D node n nw nd wi sn ns code cm) (hG : DG node n nw nd wi sn ns code cm) (ha : a < n) (hk : 0 ≤ k) :
    Ex MX2_pathName (d + 1) [.inr D, .inl (a : Int), .inl k] h 0 0 (fun r g => r = some (.inl (ptv node wi sn ns a k)) ∧ g = h) := by
  obtain ⟨e0, e1, e2, e3, e4, e5, e6, e7, e8, e9, e10, e11, e12, e13, e14, e15, e16, e17, e18, e19⟩ := id hD
  obtain ⟨r0, r1, r2, r3, r4, r5⟩ := id hR
  have hn := r4 a ha
  have n12 := hG.1
  have ns6 := hG.2.2.2.1
  have hb := (hG.2.2.2.2.1 a ha).2.1
  have hw := hG.wiB
  have h4 := hG.d4 hb
  have eh : jX h (jP h D 6) ((((a : Nat) : Int)).toNat) = tp (node (6 * a + 3)) := by rw [e3, Int.toNat_natCast]; exact hn.2.1
  refine Ex_of_V tX2_pathName (Nat.le_of_ble_eq_true rfl) ?_
  apply bX2_pathName_0
  case e1 =>
    rw [eh]
    refine Ex.mono (eX2_depth hD (fun k hk => (r5 k hk).1) ns6 hw hb h4) ?_
    rintro r g ⟨rfl, rfl⟩
    apply bX2_pathName_10
    case q2 =>
      intro q
      refine ⟨?_, rfl⟩
      unfold ptv
      rw [if_pos (by omega)]
    case q1 =>
      intro q q2
      refine ⟨?_, rfl⟩
      unfold ptv
      rw [if_neg (by omega), if_pos q2, e4, Int.toNat_natCast, hn.2.2.1]
    case k1 =>
      intro q q2
      rw [eh]
      have key : ∀ w m : Nat, m + w + k.toNat + 1 = dep wi ns (node (6 * a + 3)) → ∀ i3, V MX2_pathName (d + 1) 44 [some (.inr D), some (.inl (a : Int)), some (.inl k), some (.inl i3), some (.inl (tp (an wi (node (6 * a + 3)) m))), some (.inl ((k.toNat + w : Nat) : Int))] [] g 0 0 (fun r g' => r = some (.inl (ptv node wi sn ns a k)) ∧ g' = g) := by
        intro w
        induction w with
        | zero =>
          intro m hm i3
          have hab := (an_b hw m _ hb).1 (by omega)
          have et : tp (an wi (node (6 * a + 3)) m) = an wi (node (6 * a + 3)) m := by unfold tp; rw [if_neg (by omega)]
          rw [et]
          apply bX2_pathName_44
          case q1 => intro _ z; omega
          case q2 =>
            intro _ _
            refine ⟨?_, rfl⟩
            unfold ptv
            rw [if_neg (by omega), if_neg (by omega), e6, (r5 _ (by omega)).2, show m = dep wi ns (node (6 * a + 3)) - 1 - k.toNat by omega]
          case q3 => intro _ z; omega
          case q4 => intro _ z; omega
          case k1 => intro z; omega
          all_goals first
            | exact e0
            | (rw [e5, e14]; done)
            | (rw [e6, e15]; done)
            | (intros; omega)
            | (intro z; omega)
            | (intros; rw [e6, e15]; refine Int.lt_of_le_of_lt (b := 5) ?_ (by decide); omega)
        | succ w ih =>
          intro m hm i3
          have hab := (an_b hw m _ hb).1 (by omega)
          have et : tp (an wi (node (6 * a + 3)) m) = an wi (node (6 * a + 3)) m := by unfold tp; rw [if_neg (by omega)]
          rw [et]
          apply bX2_pathName_44
          case q1 => intro z; omega
          case q2 => intro z; omega
          case q3 => intro _ z; omega
          case q4 => intro _ z; omega
          case k1 =>
            intro _ _
            rw [e5, (r5 _ (by omega)).1, show ((k.toNat + (w + 1) : Nat) : Int) + -1 = ((k.toNat + w : Nat) : Int) by omega]
            exact ih (m + 1) (by omega) i3
          all_goals first
            | exact e0
            | (rw [e5, e14]; done)
            | (rw [e6, e15]; done)
            | (intros; exact ⟨by omega, by omega⟩)
            | (intros; omega)
            | (intro z; omega)
            | (intros; rw [e5, e14]; refine Int.lt_of_le_of_lt (b := 5) ?_ (by decide); omega)
      have h9 := key (dep wi ns (node (6 * a + 3)) - 1 - k.toNat) 0 (by omega) (dep wi ns (node (6 * a + 3)))
      rw [show ((k.toNat + (dep wi ns (node (6 * a + 3)) - 1 - k.toNat) : Nat) : Int) = (dep wi ns (node (6 * a + 3)) : Int) - 1 by omega] at h9
      exact h9
    all_goals first
      | exact e0
      | (rw [e3, e12]; done)
      | (rw [e4, e13]; done)
      | (intros; exact ⟨by omega, by omega⟩)
      | (intros; omega)
      | (intros; rw [e3, e12]; refine Int.lt_of_le_of_lt (b := 11) ?_ (by decide); omega)
      | (intros; rw [e4, e13]; refine Int.lt_of_le_of_lt (b := 11) ?_ (by decide); omega)
  all_goals first
    | exact e0
    | (rw [e3, e12]; done)
    | omega
    | (rw [e3, e12]; refine Int.lt_of_le_of_lt (b := 11) ?_ (by decide); omega)
def okp (n : Nat) (a k : Int) : Prop := (0 ≤ a ∧ a < n) ∧ 0 ≤ k
theorem eX8_path {d : Nat} {a k : Int} (hI : IV h D node n nw nd wi sn ns code cm s past u K) :
    Ex MX8_path (d + 2) [.inr 2, .inl a, .inl k] h 0 0 (fun v g => XF h g ∧ ∃ z, v = some (.inl z) ∧ QR (okp n a k) (fun z => z = ptv node wi sn ns a.toNat k) z) := by
  have hx := hI.x
  obtain ⟨d1, d2, d3, d4⟩ := hI.dd
  refine Ex_of_V tX8_path (Nat.le_of_ble_eq_true rfl) ?_
  apply bX8_path_0
  case q1 => rw [hI.n0]; intro q; exact ⟨XF.rf, _, rfl, Or.inl ⟨fun z => q z.1, rfl⟩⟩
  case q2 => intro _ q; exact ⟨XF.rf, _, rfl, Or.inl ⟨fun z => q z.2, rfl⟩⟩
  case e1 =>
    rw [hI.n0, d2]
    intro o1 o2
    have h9 := eX2_pathName (d := d) (a := a.toNat) (k := k) d3 hI.dr hI.dg (by omega) o2
    rw [show ((a.toNat : Nat) : Int) = a by omega] at h9
    refine Ex.mono h9 ?_
    rintro r g ⟨rfl, rfl⟩
    apply bX8_path_23
    exact ⟨XF.rf, _, rfl, Or.inr ⟨⟨o1, o2⟩, rfl⟩⟩
  all_goals first
    | exact hx.s2
    | exact hI.dk
theorem eX9_path {d : Nat} {a k : Int} (hI : IV h D node n nw nd wi sn ns code cm s past u K) :
    Ex MX9_path (d + 2) [.inr 476, .inl a, .inl k] h 0 0 (fun v g => XF h g ∧ ∃ z, v = some (.inl z) ∧ QR (okp n a k) (fun z => z = ptv node wi sn ns a.toNat k) z) := by
  have hM := hI.mk
  obtain ⟨m1, m2, m3, m4, m5, m6, m7, m8, m9⟩ := id hI.md
  have hG := hI.dg
  have n12 := hG.1
  have ns6 := hG.2.2.2.1
  have hw := hG.wiB
  refine Ex_of_V tX9_path (Nat.le_of_ble_eq_true rfl) ?_
  apply bX9_path_0
  case q1 => rw [m1]; intro q; exact ⟨XF.rf, _, rfl, Or.inl ⟨fun z => q (by have := z.1; omega), rfl⟩⟩
  case q2 => intro _ q; exact ⟨XF.rf, _, rfl, Or.inl ⟨fun z => q z.2, rfl⟩⟩
  case k1 =>
    rw [m1]
    intro o1 o2
    have ok : okp n a k := ⟨by omega, o2⟩
    have e3 : jX h (jP h 476 0) ((6 * a + 3).toNat) = node (6 * a.toNat + 3) := by rw [hM.p0, m5, show (6 * a + 3).toNat = 6 * a.toNat + 3 by omega]
    have e4 : jX h (jP h 476 0) ((6 * a + 4).toNat) = node (6 * a.toNat + 4) := by rw [hM.p0, m5, show (6 * a + 4).toNat = 6 * a.toNat + 4 by omega]
    rw [e3]
    have hb := (hG.2.2.2.2.1 a.toNat (by omega)).2.1
    have h4 := hG.d4 hb
    -- inward again
    have back : ∀ w m : Nat, (m : Int) + w + k = dep wi ns (node (6 * a.toNat + 3)) → ∀ i3 : Int, V MX9_path (d + 2) 75 [some (.inr 476), some (.inl a), some (.inl k), some (.inl i3), some (.inl (if m = 0 then node (6 * a.toNat + 4) else sn (an wi (node (6 * a.toNat + 3)) (m - 1)).toNat)), some (.inl (an wi (node (6 * a.toNat + 3)) m)), some (.inl (k + w))] [] h 0 0 (fun v g => XF h g ∧ ∃ z, v = some (.inl z) ∧ QR (okp n a k) (fun z => z = ptv node wi sn ns a.toNat k) z) := by
      intro w
      induction w with
      | zero =>
        intro m hm i3
        apply bX9_path_75
        case q1 =>
          intro _
          refine ⟨XF.rf, _, rfl, Or.inr ⟨ok, ?_⟩⟩
          unfold ptv
          rw [if_neg (by omega)]
          by_cases z : m = 0
          · rw [if_pos z, if_pos (by omega)]
          · rw [if_neg z, if_neg (by omega), show m - 1 = dep wi ns (node (6 * a.toNat + 3)) - 1 - k.toNat by omega]
        case k1 => intro z; omega
        all_goals first
          | exact hM.x
          | (rw [hM.p4, hM.s478]; done)
          | (rw [hM.p5, hM.s479]; done)
          | (intro z; omega)
      | succ w ih =>
        intro m hm i3
        have hab := (an_b hw m _ hb).1 (by omega)
        apply bX9_path_75
        case q1 => intro z; omega
        case k1 =>
          intro _
          rw [hM.p4, hM.p5, m6, m7, show k + ((w + 1 : Nat) : Int) + -1 = k + (w : Int) by omega]
          have h9 := ih (m + 1) (by omega) i3
          rw [if_neg (Nat.succ_ne_zero m), Nat.add_sub_cancel] at h9
          exact h9
        all_goals first
          | exact hM.x
          | (rw [hM.p4, hM.s478]; done)
          | (rw [hM.p5, hM.s479]; done)
          | (intros; exact ⟨by omega, by omega⟩)
          | (intros; omega)
          | (intros; rw [hM.p4, hM.s478]; refine Int.lt_of_le_of_lt (b := 5) ?_ (by decide); omega)
          | (intros; rw [hM.p5, hM.s479]; refine Int.lt_of_le_of_lt (b := 5) ?_ (by decide); omega)
    -- outward
    have out : ∀ w m : Nat, m + w = dep wi ns (node (6 * a.toNat + 3)) → ∀ u5 u6, V MX9_path (d + 2) 24 [some (.inr 476), some (.inl a), some (.inl k), some (.inl ((m + 1 : Nat) : Int)), some (.inl (an wi (node (6 * a.toNat + 3)) m)), u5, u6] [] h 0 0 (fun v g => XF h g ∧ ∃ z, v = some (.inl z) ∧ QR (okp n a k) (fun z => z = ptv node wi sn ns a.toNat k) z) := by
      intro w
      induction w with
      | zero =>
        intro m hm u5 u6
        have hm' : m = dep wi ns (node (6 * a.toNat + 3)) := by omega
        have ha := (an_b hw m _ hb).2 hm'
        rw [ha]
        apply bX9_path_24
        case q1 =>
          intro _ q
          refine ⟨XF.rf, _, rfl, Or.inr ⟨ok, ?_⟩⟩
          unfold ptv
          rw [if_pos (by omega)]
        case k1 =>
          intro _ q
          rw [e3, e4]
          have h9 := back (dep wi ns (node (6 * a.toNat + 3)) - k.toNat) 0 (by omega) ((m + 1 : Nat) : Int)
          rw [if_pos rfl, show k + ((dep wi ns (node (6 * a.toNat + 3)) - k.toNat : Nat) : Int) = ((m + 1 : Nat) : Int) - 1 by omega] at h9
          exact h9
        case k2 => intro z; exact absurd rfl z
        all_goals first
          | exact hM.x
          | (rw [hM.p4, hM.s478]; done)
          | (rw [hM.p0, hM.s477]; done)
          | (intros; exact ⟨by omega, by omega⟩)
          | (intro z; exact absurd rfl z)
          | (intros; omega)
          | (intros; rw [hM.p0, hM.s477]; refine Int.lt_of_le_of_lt (b := 71) ?_ (by decide); omega)
      | succ w ih =>
        intro m hm u5 u6
        have hab := (an_b hw m _ hb).1 (by omega)
        apply bX9_path_24
        case k2 =>
          intro _
          rw [hM.p4, m6, show ((m + 1 : Nat) : Int) + 1 = ((m + 1 + 1 : Nat) : Int) by omega]
          exact ih (m + 1) (by omega) _ _
        case k1 => intro z; omega
        case q1 => intro z; omega
        all_goals first
          | exact hM.x
          | (rw [hM.p4, hM.s478]; done)
          | (rw [hM.p0, hM.s477]; done)
          | (intros; exact ⟨by omega, by omega⟩)
          | (intros; omega)
          | (intro z; omega)
          | (intros; rw [hM.p4, hM.s478]; refine Int.lt_of_le_of_lt (b := 5) ?_ (by decide); omega)
    exact out (dep wi ns (node (6 * a.toNat + 3))) 0 (by omega) _ _
  all_goals first
    | exact hM.x
    | (rw [hM.p0, hM.s477]; done)
    | (rw [m1]; intros; omega)
    | (rw [m1]; intros; rw [hM.p0, hM.s477]; refine Int.lt_of_le_of_lt (b := 71) ?_ (by decide); omega)
theorem pair_path {d d' : Nat} {a b : Int} (hI : IE h K) : Ex MX8_path (d + 2) [.inr 2, .inl a, .inl b] h 0 0 (PR MX9_path (d' + 2) [.inr 476, .inl a, .inl b] K) := by
  obtain ⟨D, node, n, nw, nd, wi, sn, ns, code, cm, s, past, u, hI⟩ := hI
  exact pair_q eqS hI (eX8_path hI) (fun g hJ => eX9_path hJ)
end ML
