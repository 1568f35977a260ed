/-! ===== SignalWaves: questions to the history ===== -/
section KY
variable {h g : jH} {node wi sn code cm s past : Nat → Int} {n nw nd ns u D : Nat} {K : Int} {l : Nat → Nat → Int} {L cnt : Nat} {T : Nat → Nat}
theorem IX.s2 (hI : IX h) : (jS h 2).1 = 8 := hI.1.1
theorem IX.p0 (hI : IX h) : jP h 2 0 = 3 := hI.1.2.1
theorem IX.p3 (hI : IX h) : jP h 2 3 = 49 := hI.1.2.2.1
theorem IX.p4 (hI : IX h) : jP h 2 4 = 50 := hI.1.2.2.2.1
theorem IX.p5 (hI : IX h) : jP h 2 5 = 89 := hI.1.2.2.2.2.1
theorem IX.p6 (hI : IX h) : jP h 2 6 = 325 := hI.1.2.2.2.2.2.1
theorem IX.p7 (hI : IX h) : jP h 2 7 = 326 := hI.1.2.2.2.2.2.2.1
theorem IX.p8 (hI : IX h) : jP h 2 8 = 327 := hI.1.2.2.2.2.2.2.2.1
theorem IX.p9 (hI : IX h) : jP h 2 9 = 328 := hI.1.2.2.2.2.2.2.2.2.1
theorem IX.p11 (hI : IX h) : jP h 2 11 = 329 := hI.1.2.2.2.2.2.2.2.2.2.1
theorem IX.p12 (hI : IX h) : jP h 2 12 = 393 := hI.1.2.2.2.2.2.2.2.2.2.2.1
theorem IX.p13 (hI : IX h) : jP h 2 13 = 397 := hI.1.2.2.2.2.2.2.2.2.2.2.2
theorem IX.hk (hI : IX h) : HK h := hI.2.2.2.1
theorem IX.hy (hI : IX h) : HY h := hI.2.2.2.2.1
theorem IX.k50 (hI : IX h) : SK h 50 := hI.2.2.2.2.2.1
theorem IX.d5 (hI : IX h) : DK h 5 := hI.2.2.2.2.2.2.2.2.1
theorem IX.d27 (hI : IX h) : DK h 27 := hI.2.2.2.2.2.2.2.2.2.1
theorem IX.y5 (hI : IX h) : DY h 5 := hI.2.2.2.2.2.2.2.2.2.2.1
theorem IX.y27 (hI : IX h) : DY h 27 := hI.2.2.2.2.2.2.2.2.2.2.2.1
theorem IX.b50 (hI : IX h) : RB h 50 := hI.2.2.2.2.2.2.2.2.2.2.2.2.2.1
theorem IX.mk (hI : IX h) : MK h := hI.2.2.2.2.2.2.2.2.2.2.2.2.2.2.2.2.2
theorem IV.x (hI : IV h D node n nw nd wi sn ns code cm s past u K) : IX h := hI.1
theorem IV.dd (hI : IV h D node n nw nd wi sn ns code cm s past u K) : (D = 5 ∨ D = 27) ∧ jP h 2 1 = D ∧ DK h D ∧ DY h D := by
  have hx := hI.x
  obtain ⟨v1, ⟨v2, v3, v4, v5⟩, -⟩ := hI
  rcases v2 with ⟨rfl, q, -⟩ | ⟨rfl, q, -⟩
  · exact ⟨Or.inl rfl, q, hx.d5, hx.y5⟩
  · exact ⟨Or.inr rfl, q, hx.d27, hx.y27⟩
theorem IV.dr (hI : IV h D node n nw nd wi sn ns code cm s past u K) : DRep h D node n nw nd wi sn ns code cm := hI.2.1.2.1
theorem IV.md (hI : IV h D node n nw nd wi sn ns code cm s past u K) : MD h node n nw nd wi sn ns code cm := hI.2.1.2.2.1
theorem IV.dg (hI : IV h D node n nw nd wi sn ns code cm s past u K) : DG node n nw nd wi sn ns code cm := hI.2.1.2.2.2
theorem IV.rr (hI : IV h D node n nw nd wi sn ns code cm s past u K) : RecRep h 50 s node n := hI.2.2.1.1
theorem IV.es (hI : IV h D node n nw nd wi sn ns code cm s past u K) : jX h 482 = s := hI.2.2.1.2.1
theorem IV.si (hI : IV h D node n nw nd wi sn ns code cm s past u K) : SI s node n K := hI.2.2.1.2.2
theorem IV.n0 (hI : IV h D node n nw nd wi sn ns code cm s past u K) : jI h (jP h 2 1) 0 = (n : Int) := by rw [hI.dd.2.1]; exact hI.dr.1
theorem IV.t0 (hI : IV h D node n nw nd wi sn ns code cm s past u K) : jI h (jP h 2 4) 0 = s 0 := by rw [hI.x.p4]; exact hI.rr.1
theorem IV.dk (hI : IV h D node n nw nd wi sn ns code cm s past u K) : (jS h (jP h 2 1)).1 = 2 := by rw [hI.dd.2.1]; exact hI.dd.2.2.1.1
theorem IV.rk (hI : IV h D node n nw nd wi sn ns code cm s past u K) : (jS h (jP h 2 4)).1 = 6 := by rw [hI.x.p4]; exact hI.x.k50.1
theorem IV.hk (hI : IV h D node n nw nd wi sn ns code cm s past u K) : (jS h (jP h 2 11)).1 = 3 := by rw [hI.x.p11]; exact hI.x.hk.1
theorem IV.ht (hI : IV h D node n nw nd wi sn ns code cm s past u K) : jS h (jP h (jP h 2 11) 2) = (16, 61) := by rw [hI.x.p11, hI.x.hk.2.1]; exact hI.x.hk.2.2.2.1
/-- the history is read -/
theorem eX8_hist {d : Nat} (hI : IV h D node n nw nd wi sn ns code cm s past u K) :
    Ex MX3_read (d + 3) [.inr (jP h 2 11), .inr (jP h 2 1), .inr (jP h 2 4)] h 0 0 (fun v g => v = none ∧ XF h g ∧ IV g D node n nw nd wi sn ns code cm s past u K ∧ ∃ cnt T, HL g (s 0).toNat cnt T (nl node code cm s n) n) := by
  have hx := hI.x
  obtain ⟨d1, d2, d3, d4⟩ := hI.dd
  obtain ⟨g1, g2, g3, g4, g5, g6, -⟩ := id hI.dg
  rw [hx.p11, hx.p4, d2]
  refine Ex.mono (eX3_read hx.hk hx.hy d3 d4 d1 hI.dr g1 g2 g5 hI.dg.wn g6 hx.k50 hx.b50 hI.si hI.rr) ?_
  rintro v g ⟨rfl, fp, hr⟩
  have xf : XF h g := fp.xf (fun a ha => by unfold hP at ha; unfold sc; omega)
  obtain ⟨cnt, hl⟩ := hr.hl hI.si
  exact ⟨rfl, xf, hI.xf xf, cnt, _, hl⟩
/-- the least -/
def FM (P : Nat → Prop) (z : Int) : Prop := (∃ r : Nat, z = (r : Int) ∧ P r ∧ ∀ e, e < r → ¬ P e) ∨ (z = -9 ∧ ∀ e, ¬ P e)
theorem FM.uniq {P : Nat → Prop} {z z' : Int} (h1 : FM P z) (h2 : FM P z') : z = z' := by
  rcases h1 with ⟨r, a, b, c⟩ | ⟨a, b⟩ <;> rcases h2 with ⟨r', a', b', c'⟩ | ⟨a', b'⟩
  · by_cases q : r < r'
    · exact absurd b (c' r q)
    · by_cases q2 : r' < r
      · exact absurd b' (c r' q2)
      · omega
  · exact absurd b (b' r)
  · exact absurd b' (b r')
  · omega
/-- the greatest -/
def FG (P : Nat → Prop) (z : Int) : Prop := (∃ r : Nat, z = (r : Int) ∧ P r ∧ ∀ e, r < e → ¬ P e) ∨ (z = -9 ∧ ∀ e, ¬ P e)
theorem FG.uniq {P : Nat → Prop} {z z' : Int} (h1 : FG P z) (h2 : FG P z') : z = z' := by
  rcases h1 with ⟨r, a, b, c⟩ | ⟨a, b⟩ <;> rcases h2 with ⟨r', a', b', c'⟩ | ⟨a', b'⟩
  · by_cases q : r < r'
    · exact absurd b' (c r' q)
    · by_cases q2 : r' < r
      · exact absurd b (c' r q2)
      · omega
  · exact absurd b (b' r)
  · exact absurd b' (b r')
  · omega
/-- an answer, -1 where the arguments are none -/
def QR (ok : Prop) (S : Int → Prop) (z : Int) : Prop := (¬ ok ∧ z = -1) ∨ (ok ∧ S z)
theorem QR.uniq {ok : Prop} {S : Int → Prop} (hS : ∀ a b, S a → S b → a = b) {z z' : Int} (h1 : QR ok S z) (h2 : QR ok S z') : z = z' := by
  rcases h1 with ⟨a, b⟩ | ⟨a, b⟩ <;> rcases h2 with ⟨a', b'⟩ | ⟨a', b'⟩
  · omega
  · exact absurd a' a
  · exact absurd a a'
  · exact hS _ _ b b'
def okk (n : Nat) (s : Nat → Int) (a kind t : Int) : Prop := (0 ≤ a ∧ a < n) ∧ (0 ≤ kind ∧ kind ≤ 2) ∧ (0 ≤ t ∧ t ≤ s 0)
def nxP (l : Nat → Int) (L : Nat) (kind : Int) (t : Int) (r : Nat) : Prop := t < r ∧ r ≤ L ∧ ed l kind r
def pvP (l : Nat → Int) (L : Nat) (kind : Int) (t : Int) (r : Nat) : Prop := (r : Int) < t ∧ r ≤ L ∧ ed l kind r
theorem eX8_next {d : Nat} {a kind t : Int} (hI : IV h D node n nw nd wi sn ns code cm s past u K) :
    Ex MX8_next (d + 4) [.inr 2, .inl a, .inl kind, .inl t] h 0 0 (fun v g => XF h g ∧ ∃ z, v = some (.inl z) ∧ QR (okk n s a kind t) (FM (nxP (nl node code cm s n a.toNat) (s 0).toNat kind t)) z) := by
  have hx := hI.x
  have hn12 := hI.dg.1
  refine Ex_of_V tX8_next (Nat.le_of_ble_eq_true rfl) ?_
  apply bX8_next_0
  case q1 => rw [hI.n0]; intro q; exact ⟨XF.rf, _, rfl, Or.inl ⟨fun z => q z.1, rfl⟩⟩
  case q2 => intro _ q; exact ⟨XF.rf, _, rfl, Or.inl ⟨fun z => q z.2.1, rfl⟩⟩
  case q3 => rw [hI.t0]; intro _ _ q; exact ⟨XF.rf, _, rfl, Or.inl ⟨fun z => q z.2.2, rfl⟩⟩
  case e1 =>
    rw [hI.n0, hI.t0]
    intro o1 o2 o3
    have ok : okk n s a kind t := ⟨o1, o2, o3⟩
    refine Ex.mono (eX8_hist hI) ?_
    rintro v g ⟨rfl, xf, hJ, cnt, T, hL⟩
    have hy := hJ.x
    apply bX8_next_40
    obtain ⟨h1, h2, h3, h4, h5, h6, h7, h8, h9, h10⟩ := id hL
    have key : ∀ (m i : Nat), i + m = cnt → (∀ j, j < i → ¬ nxP (nl node code cm s n a.toNat) (s 0).toNat kind t (T j)) → V MX8_next (d + 4) 43 [some (.inr 2), some (.inl a), some (.inl kind), some (.inl t), some (.inl (i : Int))] [] g 0 0 (fun v g => XF h g ∧ ∃ z, v = some (.inl z) ∧ QR (okk n s a kind t) (FM (nxP (nl node code cm s n a.toNat) (s 0).toNat kind t)) z) := by
      intro m
      induction m with
      | zero =>
        intro i hi hno
        obtain rfl : i = cnt := by omega
        have hc : jI g (jP g 2 11) 0 = (i : Int) := by rw [hy.p11]; exact h1
        apply bX8_next_43
        case q1 =>
          intro _
          refine ⟨xf, _, rfl, Or.inr ⟨ok, Or.inr ⟨rfl, fun e he => ?_⟩⟩⟩
          obtain ⟨j, j1, j2⟩ := hL.at (by omega) he.2.1 he.2.2
          subst j2
          exact hno j j1 he
        all_goals first
          | exact hy.s2
          | exact hJ.hk
          | (rw [hJ.ht]; done)
          | (intro q; exact absurd (by rw [hc]; exact Int.le_refl _) q)
      | succ m ih =>
        intro i hi hno
        have hc : jI g (jP g 2 11) 0 = (cnt : Int) := by rw [hy.p11]; exact h1
        have hT : jX g (jP g (jP g 2 11) 2) ((((i : Nat) : Int)).toNat) = (T i : Int) := by rw [hy.p11, hy.hk.2.1, Int.toNat_natCast]; exact h7 i (by omega)
        have hTL := h9 i (by omega)
        have hj1 : (i : Int) + 1 = ((i + 1 : Nat) : Int) := by omega
        have more : ¬ nxP (nl node code cm s n a.toNat) (s 0).toNat kind t (T i) → V MX8_next (d + 4) 43 [some (.inr 2), some (.inl a), some (.inl kind), some (.inl t), some (.inl ((i + 1 : Nat) : Int))] [] g 0 0 (fun v g => XF h g ∧ ∃ z, v = some (.inl z) ∧ QR (okk n s a kind t) (FM (nxP (nl node code cm s n a.toNat) (s 0).toNat kind t)) z) := by
          intro hni
          refine ih (i + 1) (by omega) (fun j hj => ?_)
          by_cases z : j = i
          · subst z; exact hni
          · exact hno j (by omega)
        apply bX8_next_43
        case q1 => rw [hc]; intro q; omega
        case r1 => intros; exact ⟨by omega, by omega⟩
        case k1 =>
          rw [hT]
          intro _ q
          rw [hj1]
          exact more (fun z => by have := z.1; omega)
        case e1 =>
          rw [hT]
          intro _ q
          rw [hy.p11, show a = ((a.toNat : Nat) : Int) by omega]
          refine Ex.mono (eX3_isEdge hy.hk hy.hy hL hn12 (by omega) (by omega)) ?_
          rintro v g2 ⟨⟨z, rfl, z1, z2⟩, rfl⟩
          show V MX8_next (d + 4) 80 _ [.inl z] g2 0 0 _
          rw [show ((a.toNat : Nat) : Int) = a by omega]
          apply bX8_next_80
          case r1 => intros; exact ⟨by omega, by omega⟩
          case k1 =>
            intro z0
            rw [hj1]
            exact more (fun w => by have := z2.mpr w.2.2; omega)
          case q1 =>
            intro z0
            refine ⟨xf, _, rfl, Or.inr ⟨ok, Or.inl ⟨T i, hT, ⟨by omega, hTL, z2.mp (by omega)⟩, fun e he hpe => ?_⟩⟩⟩
            obtain ⟨j, j1, j2⟩ := hL.at (by omega) hpe.2.1 hpe.2.2
            subst j2
            refine hno j ?_ hpe
            by_cases w : j < i
            · exact w
            · by_cases w2 : j = i
              · subst w2; omega
              · have := h8 i j (by omega) j1; omega
          all_goals first
            | exact hy.s2
            | exact hJ.hk
            | (rw [hJ.ht]; done)
            | (intros; omega)
            | (intros; rw [hJ.ht]; refine Int.lt_of_le_of_lt (b := 60) ?_ (by decide); omega)
        all_goals first
          | exact hy.s2
          | exact hJ.hk
          | (rw [hJ.ht]; done)
          | (intros; omega)
          | (intros; rw [hJ.ht]; refine Int.lt_of_le_of_lt (b := 60) ?_ (by decide); omega)
    exact key cnt 0 (by omega) (fun j hj => absurd hj (Nat.not_lt_zero _))
  all_goals first
    | exact hx.s2
    | exact hI.dk
    | exact hI.rk
    | exact hI.hk
theorem eX8_previous {d : Nat} {a kind t : Int} (hI : IV h D node n nw nd wi sn ns code cm s past u K) :
    Ex MX8_previous (d + 4) [.inr 2, .inl a, .inl kind, .inl t] h 0 0 (fun v g => XF h g ∧ ∃ z, v = some (.inl z) ∧ QR (okk n s a kind t) (FG (pvP (nl node code cm s n a.toNat) (s 0).toNat kind t)) z) := by
  have hx := hI.x
  have hn12 := hI.dg.1
  refine Ex_of_V tX8_previous (Nat.le_of_ble_eq_true rfl) ?_
  apply bX8_previous_0
  case q1 => rw [hI.n0]; intro q; exact ⟨XF.rf, _, rfl, Or.inl ⟨fun z => q z.1, rfl⟩⟩
  case q2 => intro _ q; exact ⟨XF.rf, _, rfl, Or.inl ⟨fun z => q z.2.1, rfl⟩⟩
  case q3 => rw [hI.t0]; intro _ _ q; exact ⟨XF.rf, _, rfl, Or.inl ⟨fun z => q z.2.2, rfl⟩⟩
  case e1 =>
    rw [hI.n0, hI.t0]
    intro o1 o2 o3
    have ok : okk n s a kind t := ⟨o1, o2, o3⟩
    refine Ex.mono (eX8_hist hI) ?_
    rintro v g ⟨rfl, xf, hJ, cnt, T, hL⟩
    have hy := hJ.x
    obtain ⟨h1, h2, h3, h4, h5, h6, h7, h8, h9, h10⟩ := id hL
    have hc : jI g (jP g 2 11) 0 = (cnt : Int) := by rw [hy.p11]; exact h1
    have key : ∀ (i : Nat), i ≤ cnt → (∀ j, i ≤ j → j < cnt → ¬ pvP (nl node code cm s n a.toNat) (s 0).toNat kind t (T j)) → V MX8_previous (d + 4) 51 [some (.inr 2), some (.inl a), some (.inl kind), some (.inl t), some (.inl ((i : Int) - 1))] [] g 0 0 (fun v g => XF h g ∧ ∃ z, v = some (.inl z) ∧ QR (okk n s a kind t) (FG (pvP (nl node code cm s n a.toNat) (s 0).toNat kind t)) z) := by
      intro i
      induction i with
      | zero =>
        intro hi hno
        apply bX8_previous_51
        case q1 =>
          intro _
          refine ⟨xf, _, rfl, Or.inr ⟨ok, Or.inr ⟨rfl, fun e he => ?_⟩⟩⟩
          obtain ⟨j, j1, j2⟩ := hL.at (by omega) he.2.1 he.2.2
          subst j2
          exact hno j (by omega) j1 he
        all_goals first
          | exact hy.s2
          | exact hJ.hk
          | (rw [hJ.ht]; done)
          | (intro q; exact absurd (by decide) q)
      | succ i ih =>
        intro hi hno
        rw [show ((i + 1 : Nat) : Int) - 1 = (i : Int) by omega]
        have hT : jX g (jP g (jP g 2 11) 2) ((((i : Nat) : Int)).toNat) = (T i : Int) := by rw [hy.p11, hy.hk.2.1, Int.toNat_natCast]; exact h7 i (by omega)
        have hTL := h9 i (by omega)
        have hj1 : (i : Int) + (-1) = (i : Int) - 1 := by omega
        have more : ¬ pvP (nl node code cm s n a.toNat) (s 0).toNat kind t (T i) → V MX8_previous (d + 4) 51 [some (.inr 2), some (.inl a), some (.inl kind), some (.inl t), some (.inl ((i : Int) - 1))] [] g 0 0 (fun v g => XF h g ∧ ∃ z, v = some (.inl z) ∧ QR (okk n s a kind t) (FG (pvP (nl node code cm s n a.toNat) (s 0).toNat kind t)) z) := by
          intro hni
          refine ih (by omega) (fun j hj hj2 => ?_)
          by_cases z : j = i
          · subst z; exact hni
          · exact hno j (by omega) hj2
        apply bX8_previous_51
        case q1 => intro q; omega
        case r1 => intros; exact ⟨by omega, by omega⟩
        case k1 =>
          rw [hT]
          intro _ q
          rw [hj1]
          exact more (fun z => by have := z.1; omega)
        case e1 =>
          rw [hT]
          intro _ q
          rw [hy.p11, show a = ((a.toNat : Nat) : Int) by omega]
          refine Ex.mono (eX3_isEdge hy.hk hy.hy hL hn12 (by omega) (by omega)) ?_
          rintro v g2 ⟨⟨z, rfl, z1, z2⟩, rfl⟩
          show V MX8_previous (d + 4) 81 _ [.inl z] g2 0 0 _
          rw [show ((a.toNat : Nat) : Int) = a by omega]
          apply bX8_previous_81
          case r1 => intros; exact ⟨by omega, by omega⟩
          case k1 =>
            intro z0
            rw [hj1]
            exact more (fun w => by have := z2.mpr w.2.2; omega)
          case q1 =>
            intro z0
            refine ⟨xf, _, rfl, Or.inr ⟨ok, Or.inl ⟨T i, hT, ⟨by omega, hTL, z2.mp (by omega)⟩, fun e he hpe => ?_⟩⟩⟩
            obtain ⟨j, j1, j2⟩ := hL.at (by omega) hpe.2.1 hpe.2.2
            subst j2
            refine hno j ?_ j1 hpe
            by_cases w : i < j
            · exact w
            · by_cases w2 : j = i
              · subst w2; omega
              · have := h8 j i (by omega) (by omega); omega
          all_goals first
            | exact hy.s2
            | exact hJ.hk
            | (rw [hJ.ht]; done)
            | (intros; omega)
            | (intros; rw [hJ.ht]; refine Int.lt_of_le_of_lt (b := 60) ?_ (by decide); omega)
        all_goals first
          | exact hy.s2
          | exact hJ.hk
          | (rw [hJ.ht]; done)
          | (intros; omega)
          | (intros; rw [hJ.ht]; refine Int.lt_of_le_of_lt (b := 60) ?_ (by decide); omega)
    apply bX8_previous_40
    case k1 => rw [hc]; exact key cnt (Nat.le_refl _) (fun j hj hj2 => by omega)
    all_goals first
      | exact hy.s2
      | exact hJ.hk
      | (rw [hc]; exact ⟨by omega, by omega⟩)
  all_goals first
    | exact hx.s2
    | exact hI.dk
    | exact hI.rk
    | exact hI.hk
def okv (n : Nat) (s : Nat → Int) (a v t : Int) : Prop := (0 ≤ a ∧ a < n) ∧ (v = -7 ∨ (0 ≤ v ∧ v ≤ 255)) ∧ (0 ≤ t ∧ t ≤ s 0)
def fsP (l : Nat → Int) (L : Nat) (v : Int) (t : Int) (r : Nat) : Prop := t ≤ (r : Int) ∧ r ≤ L ∧ l r = v
/-- the time behind a moment -/
def aft (cnt L : Nat) (T : Nat → Nat) (i : Nat) : Nat := if i + 1 < cnt then T (i + 1) else L + 1
theorem HL.aftb (hH : HL g L cnt T l n) {i : Nat} (hi : i < cnt) : T i < aft cnt L T i ∧ aft cnt L T i ≤ L + 1 := by
  obtain ⟨h1, h2, h3, h4, h5, h6, h7, h8, h9, h10⟩ := hH
  have := h9 i hi
  by_cases q : i + 1 < cnt
  · have e : aft cnt L T i = T (i + 1) := if_pos q
    rw [e]; exact ⟨h8 _ _ (by omega) q, by have := h9 _ q; omega⟩
  · have e : aft cnt L T i = L + 1 := if_neg q
    rw [e]; omega
theorem HL.val (hH : HL g L cnt T l n) {i k t : Nat} (hi : i < cnt) (hk : k < n) (h1 : T i ≤ t) (h2 : t < aft cnt L T i) : jX g (332 + i) k = l k t := by
  have ha := hH.aftb hi
  obtain ⟨-, -, h3, h4, h5, h6, h7, h8, h9, h10⟩ := hH
  exact h10 i hi k hk t h1 (by omega) (fun q => by
    have e : aft cnt L T i = T (i + 1) := if_pos q
    omega)
theorem HL.jaf (hH : HL g L cnt T l n) {i : Nat} (hi : i < cnt) : jaft (i : Int) (cnt : Int) (L : Int) (jX g 330 (i + 1)) = (aft cnt L T i : Int) := by
  obtain ⟨-, -, h3, h4, h5, h6, h7, h8, h9, h10⟩ := hH
  by_cases q : i + 1 < cnt
  · have e : aft cnt L T i = T (i + 1) := if_pos q
    rw [e, h7 (i + 1) q]
    exact if_pos (by omega)
  · have e : aft cnt L T i = L + 1 := if_neg q
    rw [e]
    exact if_neg (by omega)
theorem eX8_first {d : Nat} {a v t : Int} (hI : IV h D node n nw nd wi sn ns code cm s past u K) :
    Ex MX8_first (d + 4) [.inr 2, .inl a, .inl v, .inl t] h 0 0 (fun r g => XF h g ∧ ∃ z, r = some (.inl z) ∧ QR (okv n s a v t) (FM (fsP (nl node code cm s n a.toNat) (s 0).toNat v t)) z) := by
  have hx := hI.x
  have hn12 := hI.dg.1
  have hsi := hI.si.1
  refine Ex_of_V tX8_first (Nat.le_of_ble_eq_true rfl) ?_
  apply bX8_first_0
  case q1 => rw [hI.n0]; intro q; exact ⟨XF.rf, _, rfl, Or.inl ⟨fun z => q z.1, rfl⟩⟩
  case q2 => intro _ q; exact ⟨XF.rf, _, rfl, Or.inl ⟨fun z => q z.2.1, rfl⟩⟩
  case q3 => rw [hI.t0]; intro _ _ q; exact ⟨XF.rf, _, rfl, Or.inl ⟨fun z => q z.2.2, rfl⟩⟩
  case e1 =>
    rw [hI.n0, hI.t0]
    intro o1 o2 o3
    have ok : okv n s a v t := ⟨o1, o2, o3⟩
    refine Ex.mono (eX8_hist hI) ?_
    rintro r g ⟨rfl, xf, hJ, cnt, T, hL⟩
    have hy := hJ.x
    apply bX8_first_40
    obtain ⟨h1, h2, h3, h4, h5, h6, h7, h8, h9, h10⟩ := id hL
    have hc : jI g (jP g 2 11) 0 = (cnt : Int) := by rw [hy.p11]; exact h1
    have hc1 : jI g (jP g 2 11) 1 = ((s 0).toNat : Int) := by rw [hy.p11]; exact h2
    have key : ∀ (m i b : Nat), i + m = cnt → (i < cnt → b = T i) → (i = cnt → b = (s 0).toNat + 1) → (∀ e, e < b → ¬ fsP (nl node code cm s n a.toNat) (s 0).toNat v t e) → V MX8_first (d + 4) 43 [some (.inr 2), some (.inl a), some (.inl v), some (.inl t), some (.inl (i : Int))] [] g 0 0 (fun r g => XF h g ∧ ∃ z, r = some (.inl z) ∧ QR (okv n s a v t) (FM (fsP (nl node code cm s n a.toNat) (s 0).toNat v t)) z) := by
      intro m
      induction m with
      | zero =>
        intro i b hi hb hb2 hno
        obtain rfl : i = cnt := by omega
        apply bX8_first_43
        case q1 =>
          intro _
          refine ⟨xf, _, rfl, Or.inr ⟨ok, Or.inr ⟨rfl, fun e he => ?_⟩⟩⟩
          exact hno e (by have := he.2.1; have := hb2 rfl; omega) he
        all_goals first
          | exact hy.s2
          | exact hJ.hk
          | (rw [hJ.ht]; done)
          | (rw [hy.p11, hy.hk.2.2.1, hy.hk.2.2.2.2.1]; done)
          | (intro q; exact absurd (by rw [hc]; exact Int.le_refl _) q)
      | succ m ih =>
        intro i b hi hb hb2 hno
        have hbT := hb (by omega)
        have hT : jX g (jP g (jP g 2 11) 2) ((((i : Nat) : Int)).toNat) = (T i : Int) := by rw [hy.p11, hy.hk.2.1, Int.toNat_natCast]; exact h7 i (by omega)
        have hTL := h9 i (by omega)
        have hj1 : (i : Int) + 1 = ((i + 1 : Nat) : Int) := by omega
        have haf : jaft (i : Int) (jI g (jP g 2 11) 0) (jI g (jP g 2 11) 1) (jX g (jP g (jP g 2 11) 2) (((i : Int) + 1).toNat)) = (aft cnt (s 0).toNat T i : Int) := by
          rw [hc, hc1, hy.p11, hy.hk.2.1, show ((i : Int) + 1).toNat = i + 1 by omega]
          exact hL.jaf (by omega)
        have hab := hL.aftb (i := i) (by omega)
        have hrow : jX g (jY g (jP g (jP g 2 11) 3) ((((i : Nat) : Int)).toNat)) a.toNat = jX g (332 + i) a.toNat := by rw [hy.p11, hy.hk.2.2.1, Int.toNat_natCast, hy.hy i (by omega)]
        have hval : ∀ e, T i ≤ e → e < aft cnt (s 0).toNat T i → nl node code cm s n a.toNat e = jX g (332 + i) a.toNat := fun e e1 e2 => (hL.val (by omega) (by omega) e1 e2).symm
        have more : (∀ e, T i ≤ e → e < aft cnt (s 0).toNat T i → ¬ fsP (nl node code cm s n a.toNat) (s 0).toNat v t e) → V MX8_first (d + 4) 43 [some (.inr 2), some (.inl a), some (.inl v), some (.inl t), some (.inl ((i + 1 : Nat) : Int))] [] g 0 0 (fun r g => XF h g ∧ ∃ z, r = some (.inl z) ∧ QR (okv n s a v t) (FM (fsP (nl node code cm s n a.toNat) (s 0).toNat v t)) z) := by
          intro hni
          refine ih (i + 1) (aft cnt (s 0).toNat T i) (by omega) (fun q => if_pos q) (fun q => if_neg (by omega)) (fun e he => ?_)
          by_cases z : e < b
          · exact hno e z
          · exact hni e (by omega) he
        apply bX8_first_43
        case q1 => rw [hc]; intro q; omega
        case r1 => intros; exact ⟨by omega, by omega⟩
        case r2 => intros; exact ⟨by omega, by omega⟩
        case k1 =>
          rw [haf]
          intro _ q
          rw [hj1]
          exact more (fun e e1 e2 z => by have := z.1; omega)
        case k2 =>
          rw [haf, hrow]
          intro _ q q2
          rw [hj1]
          exact more (fun e e1 e2 z => q2 (by rw [← hval e e1 e2]; exact z.2.2))
        case q2 =>
          rw [haf, hrow, hT]
          intro _ q q2
          refine ⟨xf, _, rfl, Or.inr ⟨ok, Or.inl ⟨(max t (T i : Int)).toNat, by omega, ⟨by omega, by omega, ?_⟩, fun e he hpe => ?_⟩⟩⟩
          · rw [hval _ (by omega) (by omega)]; exact q2
          · by_cases z : e < b
            · exact hno e z hpe
            · have := hpe.1; omega
        all_goals first
          | exact hy.s2
          | exact hJ.hk
          | (rw [hJ.ht]; done)
          | (rw [hy.p11, hy.hk.2.2.1, hy.hk.2.2.2.2.1]; done)
          | (intros; omega)
          | (intros; rw [hJ.ht]; refine Int.lt_of_le_of_lt (b := 60) ?_ (by decide); omega)
          | (intros; rw [hy.p11, hy.hk.2.2.1, hy.hk.2.2.2.2.1]; refine Int.lt_of_le_of_lt (b := 60) ?_ (by decide); omega)
          | (intros; rw [hy.p11, hy.hk.2.2.1, Int.toNat_natCast, hy.hy i (by omega), hy.hk.2.2.2.2.2 i (by omega)]; done)
          | (intros; rw [hy.p11, hy.hk.2.2.1, Int.toNat_natCast, hy.hy i (by omega), hy.hk.2.2.2.2.2 i (by omega)]; refine Int.lt_of_le_of_lt (b := 11) ?_ (by decide); omega)
          | (rw [hc1]; exact ⟨by omega, by omega⟩)
          | (intros; rw [hc1]; omega)
          | (intros; rw [hc]; omega)
    exact key cnt 0 0 (by omega) (fun _ => h6.symm) (fun q => by omega) (fun e he => absurd he (Nat.not_lt_zero _))
  all_goals first
    | exact hx.s2
    | exact hI.dk
    | exact hI.rk
    | exact hI.hk
end KY
