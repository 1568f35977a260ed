/-! ===== SignalWaves: ticks, holds ===== -/
section LA
variable {h g : jH} {node wi sn code cm s past : Nat → Int} {n nw nd ns u D : Nat} {K : Int} {l : Nat → Nat → Int} {L cnt : Nat} {T : Nat → Nat} {P : Nat → Prop}
theorem bit_n {set : Int} {n k : Nat} (hn : n ≤ 12) (h0 : 0 ≤ set) (h1 : set < jshl 1 (n : Int)) (hk : n ≤ k) (h12 : k < 12) : ¬ bit set k := by
  rw [shl_b n (by omega)] at h1
  have h2 : 2 ^ n ≤ 2 ^ 12 := Nat.pow_le_pow_right (by decide) hn
  have h3 : 2 ^ n ≤ 2 ^ k := Nat.pow_le_pow_right (by decide) hk
  have h4 : set.toNat < 2 ^ n := by omega
  have h5 : (2 : Nat) ^ 12 = 4096 := by decide
  intro q
  unfold bit at q
  rw [show set = ((set.toNat : Nat) : Int) by omega, bit_b set.toNat (by omega) k h12, Nat.testBit_lt_two_pow (by omega)] at q
  exact absurd q (by decide)
def tkP (l : Nat → Nat → Int) (n : Nat) (set : Int) (e : Nat) : Prop := ∃ k, k < n ∧ bit set k ∧ ed (l k) 0 e
def okt (n : Nat) (set k : Int) : Prop := 0 ≤ set ∧ set < jshl 1 (n : Int) ∧ -1 ≤ k
def tkS (l : Nat → Nat → Int) (n L : Nat) (set k z : Int) : Prop := (k = -1 ∧ z = (ctc (tkP l n set) (L + 1) : Int)) ∨ (0 ≤ k ∧ FM (fun r => r ≤ L ∧ tkP l n set r ∧ (ctc (tkP l n set) r : Int) = k) z)
theorem tkS.uniq {set k z z' : Int} (h1 : tkS l n L set k z) (h2 : tkS l n L set k z') : z = z' := by
  rcases h1 with ⟨a, b⟩ | ⟨a, b⟩ <;> rcases h2 with ⟨a', b'⟩ | ⟨a', b'⟩
  · omega
  · omega
  · omega
  · exact b.uniq b'
theorem eX8_ticks {d : Nat} {set k : Int} (hI : IV h D node n nw nd wi sn ns code cm s past u K) :
    Ex MX8_ticks (d + 4) [.inr 2, .inl set, .inl k] h 0 0 (fun v g => XF h g ∧ ∃ z, v = some (.inl z) ∧ QR (okt n set k) (tkS (nl node code cm s n) n (s 0).toNat set k) z) := by
  have hx := hI.x
  have hn12 := hI.dg.1
  refine Ex_of_V tX8_ticks (Nat.le_of_ble_eq_true rfl) ?_
  apply bX8_ticks_0
  case q1 => intro q; exact ⟨XF.rf, _, rfl, Or.inl ⟨fun z => by have := z.1; omega, rfl⟩⟩
  case q2 => rw [hI.n0]; intro _ q; exact ⟨XF.rf, _, rfl, Or.inl ⟨fun z => by have := z.2.1; omega, rfl⟩⟩
  case q3 => intro _ _ q; exact ⟨XF.rf, _, rfl, Or.inl ⟨fun z => q z.2.2, rfl⟩⟩
  case e1 =>
    rw [hI.n0]
    intro o1 o2 o3
    have ok : okt n set k := ⟨by omega, by omega, o3⟩
    refine Ex.mono (eX8_hist hI) ?_
    rintro v g ⟨rfl, xf, hJ, cnt, T, hL⟩
    have hy := hJ.x
    apply bX8_ticks_39
    obtain ⟨h1, h2, h3, h4, h5, h6, h7, h8, h9, h10⟩ := id hL
    have hc : jI g (jP g 2 11) 0 = (cnt : Int) := by rw [hy.p11]; exact h1
    have hP : ∀ e, e ≤ (s 0).toNat → tkP (nl node code cm s n) n set e → ∃ j, j < cnt ∧ T j = e := fun e e1 ⟨j, j1, _, j3⟩ => hL.at j1 e1 j3
    have key : ∀ (m i b : Nat), i + m = cnt → (i < cnt → b = T i) → (i = cnt → b = (s 0).toNat + 1) → (∀ e, e < b → tkP (nl node code cm s n) n set e → (ctc (tkP (nl node code cm s n) n set) e : Int) ≠ k) → V MX8_ticks (d + 4) 44 [some (.inr 2), some (.inl set), some (.inl k), some (.inl (ctc (tkP (nl node code cm s n) n set) b : Int)), some (.inl (i : Int))] [] g 0 0 (fun v g => XF h g ∧ ∃ z, v = some (.inl z) ∧ QR (okt n set k) (tkS (nl node code cm s n) n (s 0).toNat set k) z) := by
      intro m
      induction m with
      | zero =>
        intro i b hi hb hb2 hno
        obtain rfl : i = cnt := by omega
        obtain rfl := hb2 rfl
        apply bX8_ticks_44
        case q1 => intro _ q; exact ⟨xf, _, rfl, Or.inr ⟨ok, Or.inr ⟨by omega, Or.inr ⟨rfl, fun e he => hno e (by omega) he.2.1 he.2.2⟩⟩⟩⟩
        case q2 => intro _ q; exact ⟨xf, _, rfl, Or.inr ⟨ok, Or.inl ⟨q, rfl⟩⟩⟩
        all_goals first
          | exact hy.s2
          | exact hJ.hk
          | (intro q; exact absurd (by rw [hc]; exact Int.le_refl _) q)
      | succ m ih =>
        intro i b hi hb hb2 hno
        obtain rfl := hb (by omega)
        have hT : jX g (jP g (jP g 2 11) 2) ((((i : Nat) : Int)).toNat) = (T i : Int) := by rw [hy.p11, hy.hk.2.1, Int.toNat_natCast]; exact h7 i (by omega)
        have hTL := h9 i (by omega)
        have hcl := ctc_le (P := tkP (nl node code cm s n) n set) (T i)
        have hab := hL.aftb (i := i) (by omega)
        have hj1 : (i : Int) + 1 = ((i + 1 : Nat) : Int) := by omega
        have hno2 : (tkP (nl node code cm s n) n set (T i) → (ctc (tkP (nl node code cm s n) n set) (T i) : Int) ≠ k) → ∀ e, e < aft cnt (s 0).toNat T i → tkP (nl node code cm s n) n set e → (ctc (tkP (nl node code cm s n) n set) e : Int) ≠ k := by
          intro hni e he hp
          by_cases z : e < T i
          · exact hno e z hp
          · by_cases z2 : e = T i
            · subst z2; exact hni hp
            · exact absurd hp (hL.gap hP (by omega) e (by omega) he)
        apply bX8_ticks_44
        case q1 => rw [hc]; intro q; omega
        case q2 => rw [hc]; intro q; omega
        case e1 =>
          intro _
          rw [hy.p11]
          refine Ex.mono (eX3_hasEdgeOf hy.hk hy.hy hL hn12 (fun k k1 k2 => bit_n hn12 ok.1 ok.2.1 k1 k2) (by omega)) ?_
          rintro v g2 ⟨⟨z, rfl, z1, z2⟩, rfl⟩
          show V MX8_ticks (d + 4) 66 _ [.inl z] g2 0 0 _
          apply bX8_ticks_66
          case r1 => intros; exact ⟨by omega, by omega⟩
          case r2 => intros; exact ⟨by omega, by omega⟩
          case r3 => intros; exact ⟨by omega, by omega⟩
          case k1 =>
            intro z0
            have hni : ¬ tkP (nl node code cm s n) n set (T i) := fun w => by have := z2.mpr w; omega
            rw [hj1, ← hL.ctn hP (by omega) hni]
            exact ih (i + 1) _ (by omega) (fun q => if_pos q) (fun q => if_neg (by omega)) (hno2 (fun w => absurd w hni))
          case k2 =>
            intro z0 q
            have hp : tkP (nl node code cm s n) n set (T i) := z2.mp (by omega)
            rw [hj1, show (ctc (tkP (nl node code cm s n) n set) (T i) : Int) + 1 = (ctc (tkP (nl node code cm s n) n set) (aft cnt (s 0).toNat T i) : Int) by rw [hL.ctp hP (by omega) hp]; omega]
            exact ih (i + 1) _ (by omega) (fun q => if_pos q) (fun q => if_neg (by omega)) (hno2 (fun _ => q))
          case q1 =>
            intro z0 q
            rw [hT]
            exact ⟨xf, _, rfl, Or.inr ⟨ok, Or.inr ⟨by omega, Or.inl ⟨T i, rfl, ⟨hTL, z2.mp (by omega), q⟩, fun e he hp => hno e he hp.2.1 hp.2.2⟩⟩⟩⟩
          all_goals first
            | exact hy.s2
            | exact hJ.hk
            | (rw [hJ.ht]; done)
            | (intros; omega)
            | (intros; rw [hJ.ht]; refine Int.lt_of_le_of_lt (b := 60) ?_ (by decide); omega)
        all_goals first
          | exact hy.s2
          | exact hJ.hk
          | (intros; omega)
    exact key cnt 0 0 (by omega) (fun _ => h6.symm) (fun q => by omega) (fun e he => absurd he (Nat.not_lt_zero _))
  all_goals first
    | exact hx.s2
    | exact hI.dk
    | exact hI.rk
    | exact hI.hk
def bad (l : Nat → Int) (x : Nat) : Prop := l x = -7 ∨ l x = 0
def hoP (l : Nat → Int) (L : Nat) (m t : Int) (r : Nat) : Prop := t ≤ (r : Int) ∧ (r : Int) + m ≤ (L : Int) + 1 ∧ ∀ x : Nat, r ≤ x → (x : Int) < (r : Int) + m → ¬ bad l x
def okh (n : Nat) (s : Nat → Int) (a m t : Int) : Prop := (0 ≤ a ∧ a < n) ∧ (1 ≤ m ∧ m ≤ 999) ∧ (0 ≤ t ∧ t ≤ s 0)
/-- where the run of the values that are not 0 begins -/
def hoS (l : Nat → Int) (m t : Int) (b : Nat) (z : Int) : Prop := (z = -9 ∧ (t < b → bad l (b - 1))) ∨ ∃ u : Nat, z = (u : Int) ∧ t ≤ u ∧ ((u : Int) = t ∨ (t < u ∧ u ≤ b ∧ bad l (u - 1))) ∧ ∀ x, u ≤ x → x < b → ¬ bad l x
theorem eX8_holds {d : Nat} {a m t : Int} (hI : IV h D node n nw nd wi sn ns code cm s past u K) :
    Ex MX8_holds (d + 4) [.inr 2, .inl a, .inl m, .inl t] h 0 0 (fun v g => XF h g ∧ ∃ z, v = some (.inl z) ∧ QR (okh n s a m t) (FM (hoP (nl node code cm s n a.toNat) (s 0).toNat m t)) z) := by
  have hx := hI.x
  have hn12 := hI.dg.1
  have hsi := hI.si.1
  refine Ex_of_V tX8_holds (Nat.le_of_ble_eq_true rfl) ?_
  apply bX8_holds_0
  case k1 => rw [hI.n0]; intro q; apply bX8_holds_28; exact ⟨XF.rf, _, rfl, Or.inl ⟨fun z => q z.1, rfl⟩⟩
  case k2 => intro _ q; apply bX8_holds_28; exact ⟨XF.rf, _, rfl, Or.inl ⟨fun z => by have := z.2.1; omega, rfl⟩⟩
  case k3 => intro _ _ q; apply bX8_holds_28; exact ⟨XF.rf, _, rfl, Or.inl ⟨fun z => by have := z.2.1; omega, rfl⟩⟩
  case k4 => rw [hI.t0]; intro _ _ _ q; apply bX8_holds_28; exact ⟨XF.rf, _, rfl, Or.inl ⟨fun z => q z.2.2, rfl⟩⟩
  case e1 =>
    rw [hI.n0, hI.t0]
    intro o1 o2 o2' o3
    have ok : okh n s a m t := ⟨o1, ⟨by omega, by omega⟩, o3⟩
    refine Ex.mono (eX8_hist hI) ?_
    rintro v g ⟨rfl, xf, hJ, cnt, T, hL⟩
    have hy := hJ.x
    apply bX8_holds_45
    obtain ⟨h1, h2, h3, h4, h5, h6, h7, h8, h9, h10⟩ := id hL
    have hc : jI g (jP g 2 11) 0 = (cnt : Int) := by rw [hy.p11]; exact h1
    have hc1 : jI g (jP g 2 11) 1 = ((s 0).toNat : Int) := by rw [hy.p11]; exact h2
    have key : ∀ (w i b : Nat) (z : Int) (u6 : Option jA), i + w = cnt → (i < cnt → b = T i) → (i = cnt → b = (s 0).toNat + 1) → hoS (nl node code cm s n a.toNat) m t b z → (∀ r, hoP (nl node code cm s n a.toNat) (s 0).toNat m t r → ¬ (r : Int) + m ≤ b) → V MX8_holds (d + 4) 52 [some (.inr 2), some (.inl a), some (.inl m), some (.inl t), some (.inl z), some (.inl (i : Int)), u6] [] g 0 0 (fun v g => XF h g ∧ ∃ z, v = some (.inl z) ∧ QR (okh n s a m t) (FM (hoP (nl node code cm s n a.toNat) (s 0).toNat m t)) z) := by
      intro w
      induction w with
      | zero =>
        intro i b z u6 hi hb hb2 hz hno
        obtain rfl : i = cnt := by omega
        obtain rfl := hb2 rfl
        apply bX8_holds_52
        case q1 => intro _; exact ⟨xf, _, rfl, Or.inr ⟨ok, Or.inr ⟨rfl, fun e he => hno e he (by have := he.2.1; omega)⟩⟩⟩
        all_goals first
          | exact hy.s2
          | exact hJ.hk
          | (rw [hJ.ht]; done)
          | (rw [hy.p11, hy.hk.2.2.1, hy.hk.2.2.2.2.1]; done)
          | (intro q; exact absurd (by rw [hc]; exact Int.le_refl _) q)
      | succ w ih =>
        intro i b z u6 hi hb hb2 hz hno
        obtain rfl := hb (by omega)
        have hT : jX g (jP g (jP g 2 11) 2) ((((i : Nat) : Int)).toNat) = (T i : Int) := by rw [hy.p11, hy.hk.2.1, Int.toNat_natCast]; exact h7 i (by omega)
        have hTL := h9 i (by omega)
        have hj1 : (i : Int) + 1 = ((i + 1 : Nat) : Int) := by omega
        have haf : jaft (i : Int) (jI g (jP g 2 11) 0) (jI g (jP g 2 11) 1) (jX g (jP g (jP g 2 11) 2) (((i : Int) + 1).toNat)) = (aft cnt (s 0).toNat T i : Int) := by
          rw [hc, hc1, hy.p11, hy.hk.2.1, show ((i : Int) + 1).toNat = i + 1 by omega]
          exact hL.jaf (by omega)
        have hab := hL.aftb (i := i) (by omega)
        have hrow : jX g (jY g (jP g (jP g 2 11) 3) ((((i : Nat) : Int)).toNat)) a.toNat = jX g (332 + i) a.toNat := by rw [hy.p11, hy.hk.2.2.1, Int.toNat_natCast, hy.hy i (by omega)]
        have hval : ∀ e, T i ≤ e → e < aft cnt (s 0).toNat T i → nl node code cm s n a.toNat e = jX g (332 + i) a.toNat := fun e e1 e2 => (hL.val (by omega) (by omega) e1 e2).symm
        -- the part behind the start
        have tail : ∀ (z2 v6 : Int), ((z2 = -9 ∧ ∀ x, T i ≤ x → x < aft cnt (s 0).toNat T i → bad (nl node code cm s n a.toNat) x) ∨ ∃ u : Nat, z2 = (u : Int) ∧ t ≤ u ∧ ((u : Int) = t ∨ (t < u ∧ u ≤ T i ∧ bad (nl node code cm s n a.toNat) (u - 1))) ∧ ∀ x, u ≤ x → x < aft cnt (s 0).toNat T i → ¬ bad (nl node code cm s n a.toNat) x) → V MX8_holds (d + 4) 120 [some (.inr 2), some (.inl a), some (.inl m), some (.inl t), some (.inl z2), some (.inl (i : Int)), some (.inl v6)] [] g 0 0 (fun v g => XF h g ∧ ∃ z, v = some (.inl z) ∧ QR (okh n s a m t) (FM (hoP (nl node code cm s n a.toNat) (s 0).toNat m t)) z) := by
          intro z2 v6 hz2
          have go : hoS (nl node code cm s n a.toNat) m t (aft cnt (s 0).toNat T i) z2 → (∀ r, hoP (nl node code cm s n a.toNat) (s 0).toNat m t r → ¬ (r : Int) + m ≤ (aft cnt (s 0).toNat T i : Nat)) → V MX8_holds (d + 4) 146 [some (.inr 2), some (.inl a), some (.inl m), some (.inl t), some (.inl z2), some (.inl (i : Int)), some (.inl v6)] [] g 0 0 (fun v g => XF h g ∧ ∃ z, v = some (.inl z) ∧ QR (okh n s a m t) (FM (hoP (nl node code cm s n a.toNat) (s 0).toNat m t)) z) := by
            intro y1 y2
            apply bX8_holds_146
            case r1 => exact ⟨by omega, by omega⟩
            case k1 =>
              rw [hj1]
              exact ih (i + 1) _ z2 _ (by omega) (fun q => if_pos q) (fun q => if_neg (by omega)) y1 y2
          rcases hz2 with ⟨rfl, hbad⟩ | ⟨u0, rfl, u1, u2, u3⟩
          · apply bX8_holds_120
            case k1 =>
              intro _
              refine go (Or.inl ⟨rfl, fun _ => hbad _ (by omega) (by omega)⟩) (fun r hr q => ?_)
              by_cases y : (r : Int) + m ≤ (T i : Nat)
              · exact hno r hr y
              · exact hr.2.2 (r + m.toNat - 1) (by omega) (by omega) (hbad _ (by omega) (by omega))
            all_goals first
              | exact hy.s2
              | exact hJ.hk
              | (rw [hJ.ht]; done)
              | (intro q; exact absurd rfl q)
              | (intro q; intros; exact absurd rfl q)
          · have before : ∀ r, r < u0 → ¬ hoP (nl node code cm s n a.toNat) (s 0).toNat m t r := by
              intro r hr hp
              rcases u2 with q | ⟨q1, q2, q3⟩
              · have := hp.1; omega
              · by_cases y : (r : Int) + m ≤ (u0 : Int) - 1
                · exact hno r hp (by omega)
                · exact hp.2.2 (u0 - 1) (by omega) (by omega) q3
            apply bX8_holds_120
            case k1 => intro q; omega
            case r1 => rw [haf]; intros; exact ⟨by omega, by omega⟩
            case k2 =>
              rw [haf]
              intro _ q
              refine go (Or.inr ⟨u0, rfl, u1, ?_, u3⟩) (fun r hr q2 => ?_)
              · rcases u2 with q | ⟨q1, q2, q3⟩
                · exact Or.inl q
                · exact Or.inr ⟨q1, by omega, q3⟩
              · by_cases y : r < u0
                · exact before r y hr
                · omega
            case q1 =>
              rw [haf]
              intro _ q
              exact ⟨xf, _, rfl, Or.inr ⟨ok, Or.inl ⟨u0, rfl, ⟨u1, by omega, fun x x1 x2 => u3 x x1 (by omega)⟩, before⟩⟩⟩
            all_goals first
              | exact hy.s2
              | exact hJ.hk
              | (rw [hJ.ht]; done)
              | (intros; omega)
              | (intros; rw [hc]; omega)
              | (intros; rw [hc1]; omega)
        have isbad : (jX g (332 + i) a.toNat = -7 ∨ jX g (332 + i) a.toNat = 0) → ∀ x, T i ≤ x → x < aft cnt (s 0).toNat T i → bad (nl node code cm s n a.toNat) x := fun q x x1 x2 => by
          unfold bad
          rw [hval x x1 x2]
          exact q
        have isgood : jX g (332 + i) a.toNat ≠ -7 → jX g (332 + i) a.toNat ≠ 0 → ∀ x, T i ≤ x → x < aft cnt (s 0).toNat T i → ¬ bad (nl node code cm s n a.toNat) x := fun q q2 x x1 x2 y => by
          unfold bad at y
          rw [hval x x1 x2] at y
          exact y.elim q q2
        apply bX8_holds_52
        case q1 => rw [hc]; intro q; omega
        case k1 =>
          rw [hrow]
          intro _ q
          apply bX8_holds_90
          exact tail _ _ (Or.inl ⟨rfl, isbad (Or.inl q)⟩)
        case k4 =>
          rw [hrow]
          intro _ _ q
          apply bX8_holds_90
          exact tail _ _ (Or.inl ⟨rfl, isbad (Or.inr q)⟩)
        case k2 =>
          rw [hrow]
          intro _ q q2 q3
          rcases hz with ⟨y, _⟩ | ⟨u0, rfl, u1, u2, u3⟩
          · exact absurd y q3
          · refine tail _ _ (Or.inr ⟨u0, rfl, u1, u2, fun x x1 x2 => ?_⟩)
            by_cases y : x < T i
            · exact u3 x x1 y
            · exact isgood q q2 x (by omega) x2
        case k3 =>
          rw [hrow, hT]
          intro _ q q2 q3
          rcases hz with ⟨y, y2⟩ | ⟨u0, rfl, u1, u2, u3⟩
          · refine tail _ _ (Or.inr ⟨(max t (T i : Int)).toNat, by omega, by omega, ?_, fun x x1 x2 => isgood q q2 x (by omega) x2⟩)
            by_cases y3 : (T i : Int) ≤ t
            · exact Or.inl (by omega)
            · refine Or.inr ⟨by omega, by omega, ?_⟩
              rw [show (max t (T i : Int)).toNat = T i by omega]
              exact y2 (by omega)
          · omega
        all_goals first
          | exact hy.s2
          | exact hJ.hk
          | (rw [hJ.ht]; done)
          | (rw [hy.p11, hy.hk.2.2.1, hy.hk.2.2.2.2.1]; done)
          | (intros; omega)
          | (intros; rw [hJ.ht]; refine Int.lt_of_le_of_lt (b := 60) ?_ (by decide); omega)
          | (intros; rw [hy.p11, hy.hk.2.2.1, hy.hk.2.2.2.2.1]; refine Int.lt_of_le_of_lt (b := 60) ?_ (by decide); omega)
          | (intros; rw [hy.p11, hy.hk.2.2.1, Int.toNat_natCast, hy.hy i (by omega), hy.hk.2.2.2.2.2 i (by omega)]; done)
          | (intros; rw [hy.p11, hy.hk.2.2.1, Int.toNat_natCast, hy.hy i (by omega), hy.hk.2.2.2.2.2 i (by omega)]; refine Int.lt_of_le_of_lt (b := 11) ?_ (by decide); omega)
    exact key cnt 0 0 _ _ (by omega) (fun _ => h6.symm) (fun q => by omega) (Or.inl ⟨rfl, fun q => by omega⟩) (fun r hr q => by have := hr.1; have := ok.2.1.1; omega)
  all_goals first
    | exact hx.s2
    | exact hI.dk
    | exact hI.rk
    | exact hI.hk
end LA
