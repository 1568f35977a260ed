/-! ===== both sides: change ===== -/
section MA
variable {h g : jH} {node wi sn code cm s past : Nat → Int} {n nw nd ns u D : Nat} {K : Int}
theorem eX9_nodeOfWire {d k : Nat} {w : Int} (hM : MK h) (hn : jI h 476 1 = (n : Int)) (en : jX h 477 = node) (hn12 : n ≤ 12) (hD : WD node n) (hk : k < n) (hk0 : node (6 * k) = 0) (hk5 : node (6 * k + 5) = w) :
    Ex MX9_nodeOfWire (d + 1) [.inr 476, .inl w] h 0 0 (fun r g => r = some (.inl (k : Int)) ∧ g = h) := by
  refine Ex_of_V tX9_nodeOfWire (Nat.le_of_ble_eq_true rfl) ?_
  apply bX9_nodeOfWire_0
  have key : ∀ c i : Nat, i + c = n → V MX9_nodeOfWire (d + 1) 5 [some (.inr 476), some (.inl w), some (.inl (if k < i then (k : Int) else -9)), some (.inl (i : Int))] [] h 0 0 (fun r g => r = some (.inl (k : Int)) ∧ g = h) := by
    intro c
    induction c with
    | zero =>
      intro i hi
      apply bX9_nodeOfWire_5
      case q1 => intro _; rw [if_pos (by omega)]; exact ⟨rfl, rfl⟩
      all_goals (try rw [hn])
      all_goals first
        | exact hM.x
        | (rw [hM.p0, hM.s477]; done)
        | (intro z; omega)
    | succ c ih =>
      intro i hi
      have e0 : jX h (jP h 476 0) ((6 * (i : Int) + 0).toNat) = node (6 * i) := by rw [hM.p0, en, show (6 * (i : Int) + 0).toNat = 6 * i by omega]
      have e5 : jX h (jP h 476 0) ((6 * (i : Int) + 5).toNat) = node (6 * i + 5) := by rw [hM.p0, en, show (6 * (i : Int) + 5).toNat = 6 * i + 5 by omega]
      have nx : i ≠ k → V MX9_nodeOfWire (d + 1) 5 [some (.inr 476), some (.inl w), some (.inl (if k < i then (k : Int) else -9)), some (.inl ((i : Int) + 1))] [] h 0 0 (fun r g => r = some (.inl (k : Int)) ∧ g = h) := by
        intro q
        have h9 := ih (i + 1) (by omega)
        rw [show ((i + 1 : Nat) : Int) = (i : Int) + 1 by omega] at h9
        by_cases z : k < i
        · rw [if_pos z]; rw [if_pos (by omega)] at h9; exact h9
        · rw [if_neg z]; rw [if_neg (by omega)] at h9; exact h9
      apply bX9_nodeOfWire_5
      case q1 => rw [hn]; intro z; omega
      case k1 => rw [e0]; intro _ q; exact nx (fun z => q (by rw [z]; exact hk0))
      case k2 => rw [e5]; intro _ _ q; exact nx (fun z => q (by rw [z]; exact hk5))
      case k3 =>
        rw [e0, e5]
        intro _ q q2
        have hik : i = k := hD i k (by omega) hk q hk0 (q2.trans hk5.symm)
        have h9 := ih (i + 1) (by omega)
        rw [if_pos (by omega), ← hik, show ((i + 1 : Nat) : Int) = (i : Int) + 1 by omega] at h9
        rw [← hik]
        exact h9
      all_goals (try rw [hn])
      all_goals first
        | exact hM.x
        | (rw [hM.p0, hM.s477]; done)
        | (intros; exact ⟨by omega, by omega⟩)
        | (intros; omega)
        | (intros; rw [hM.p0, hM.s477]; refine Int.lt_of_le_of_lt (b := 71) ?_ (by decide); omega)
  exact key n 0 (by omega)
def okc (s : Nat → Int) (b i what : Int) : Prop := (0 ≤ b ∧ b < s 3) ∧ 0 ≤ i ∧ 0 ≤ what ∧ what ≤ 3
def chv (node s : Nat → Int) (n b : Nat) (i what z : Int) : Prop :=
  (bM s b ≤ i.toNat ∧ z = -9) ∨ (i.toNat < bM s b ∧ ((what = 0 ∧ z = bT s b i.toNat) ∨ (what = 1 ∧ ∃ k : Nat, k < n ∧ node (6 * k) = 0 ∧ node (6 * k + 5) = s (11 + 33 * b + 9 + 3 * i.toNat + 1) ∧ z = (k : Int)) ∨ (what = 2 ∧ z = bV s b i.toNat) ∨ (what = 3 ∧ z = (pl (bV s b) 0 i.toNat : Int))))
theorem chv_u {b : Nat} {i what : Int} (hD : WD node n) : ∀ x y, chv node s n b i what x → chv node s n b i what y → x = y := by
  intro x y h1 h2
  rcases h1 with ⟨a, rfl⟩ | ⟨a, h1⟩ <;> rcases h2 with ⟨a', rfl⟩ | ⟨a', h2⟩
  · rfl
  · omega
  · omega
  · rcases h1 with ⟨a, rfl⟩ | ⟨a, k, k1, k2, k3, rfl⟩ | ⟨a, rfl⟩ | ⟨a, rfl⟩ <;> rcases h2 with ⟨a', rfl⟩ | ⟨a', k', k1', k2', k3', rfl⟩ | ⟨a', rfl⟩ | ⟨a', rfl⟩ <;> first | rfl | (exfalso; omega) | skip
    have := hD k k' k1 k1' k2 k2' (k3.trans k3'.symm)
    rw [this]
theorem eX8_change {d : Nat} {b i what : Int} (hI : IV h D node n nw nd wi sn ns code cm s past u K) :
    Ex MX8_change (d + 3) [.inr 2, .inl b, .inl i, .inl what] h 0 0 (fun v g => XF h g ∧ ∃ z, v = some (.inl z) ∧ QR (okc s b i what) (chv node s n b.toNat i what) z) := by
  have hx := hI.x
  refine Ex_of_V tX8_change (Nat.le_of_ble_eq_true rfl) ?_
  by_cases ok : 0 ≤ b ∧ b < s 3
  · have hb : ((b.toNat : Nat) : Int) < s 3 := by omega
    obtain ⟨j, hj, ej, bk, br⟩ := hI.blk hb
    obtain ⟨c1, c2, c3, c4, c5, c6, c7, c8⟩ := hI.chg hb bk br
    have c2' := bk.2.2.1
    have c9 : jP h (jP h (53 + 6 * j) 3) 2 = 53 + 6 * j + 4 := by rw [c2']; exact bk.2.2.2.2.2.2.1
    apply bX8_change_0
    case q1 => rw [hI.b4]; intro q; exact absurd ok q
    case q2 => intro _ q; exact ⟨XF.rf, _, rfl, Or.inl ⟨fun z => by have := z.2; omega, rfl⟩⟩
    case q3 => intro _ _ q; exact ⟨XF.rf, _, rfl, Or.inl ⟨fun z => by have := z.2; omega, rfl⟩⟩
    case q8 => intro _ _ _ q; exact ⟨XF.rf, _, rfl, Or.inl ⟨fun z => by have := z.2; omega, rfl⟩⟩
    case q7 => rw [ej, c1]; intro _ q1 q2 q3 q; exact ⟨XF.rf, _, rfl, Or.inr ⟨⟨ok, by omega, by omega, q3⟩, Or.inl ⟨by omega, rfl⟩⟩⟩
    case q4 =>
      rw [ej, c1]
      intro _ q1 q2 q3 q q5
      refine ⟨XF.rf, _, rfl, Or.inr ⟨⟨ok, by omega, by omega, q3⟩, Or.inr ⟨by omega, Or.inl ⟨q5, ?_⟩⟩⟩⟩
      have := (c3 i.toNat (by omega)).2
      rw [Nat.zero_add] at this
      exact this
    case q5 =>
      rw [ej, c1]
      intro _ q1 q2 q3 q _ q5
      refine ⟨XF.rf, _, rfl, Or.inr ⟨⟨ok, by omega, by omega, q3⟩, Or.inr ⟨by omega, Or.inr (Or.inl ⟨q5, ?_⟩)⟩⟩⟩
      obtain ⟨-, -, k, k1, k2, k3, k4⟩ := br.2.2.2.2 i.toNat (by unfold bM at q; omega)
      exact ⟨k, k1, k2, k4, by rw [c9]; exact k3⟩
    case q6 =>
      rw [ej, c1]
      intro _ q1 q2 q3 q _ _ q5
      refine ⟨XF.rf, _, rfl, Or.inr ⟨⟨ok, by omega, by omega, q3⟩, Or.inr ⟨by omega, Or.inr (Or.inr (Or.inl ⟨q5, ?_⟩))⟩⟩⟩
      have := (c3 i.toNat (by omega)).1
      rw [Nat.zero_add] at this
      exact this
    case e1 =>
      rw [ej, c1]
      intro _ q1 q2 q3 q o0 o1 o2
      have ei : ((i.toNat : Nat) : Int) = i := by omega
      have h9 := eX1_indexOf (d := d) (h := h) (c := jP h (53 + 6 * j) 3) (a := 0) (n := i.toNat) c4 (by rw [c5]) (by rw [c5]; omega) (by rw [c5]; decide)
      rw [Nat.zero_add, ei, pl_cong (f' := bV s b.toNat) (fun l hl => (c3 l (by omega)).1)] at h9
      refine Ex.mono h9 ?_
      rintro r g ⟨rfl, rfl⟩
      apply bX8_change_107
      exact ⟨XF.rf, _, rfl, Or.inr ⟨⟨ok, by omega, by omega, q3⟩, Or.inr ⟨by omega, Or.inr (Or.inr (Or.inr ⟨by omega, rfl⟩))⟩⟩⟩
    all_goals (try rw [ej])
    all_goals (try rw [c1])
    all_goals first
      | exact hx.s2
      | exact hI.rk
      | (rw [hI.bs]; done)
      | (rw [hI.b4]; intros; omega)
      | (intros; omega)
      | (intros; rw [hI.bs]; refine Int.lt_of_le_of_lt (b := 5) ?_ (by decide); have := hI.si.2.2.2.2.2.2.1; omega)
      | (intros; exact bk.1)
      | (intros; exact c4)
      | (intros; rw [c5]; done)
      | (intros; rw [c6]; done)
      | (intros; rw [c7]; done)
      | (intros; rw [c5]; refine Int.lt_of_le_of_lt (b := 7) ?_ (by decide); omega)
      | (intros; rw [c6]; refine Int.lt_of_le_of_lt (b := 7) ?_ (by decide); omega)
      | (intros; rw [c7]; refine Int.lt_of_le_of_lt (b := 7) ?_ (by decide); omega)
  · apply bX8_change_0
    case q1 => intro _; exact ⟨XF.rf, _, rfl, Or.inl ⟨fun z => ok z.1, rfl⟩⟩
    all_goals (try rw [hI.b4])
    all_goals first
      | exact hx.s2
      | exact hI.rk
      | (rw [hI.bs]; done)
      | (intro q; exact absurd q ok)
theorem eX9_change {d : Nat} {b i what : Int} (hI : IV h D node n nw nd wi sn ns code cm s past u K) :
    Ex MX9_change (d + 3) [.inr 476, .inl b, .inl i, .inl what] h 0 0 (fun v g => XF h g ∧ ∃ z, v = some (.inl z) ∧ QR (okc s b i what) (chv node s n b.toNat i what) z) := by
  have hM := hI.mk
  have h5 := hI.si.2.2.2.2.2.1
  have h6 := hI.si.2.2.2.2.2.2.1
  refine Ex_of_V tX9_change (Nat.le_of_ble_eq_true rfl) ?_
  by_cases ok : 0 ≤ b ∧ b < s 3
  · have hb : ((b.toNat : Nat) : Int) < s 3 := by omega
    have hB := hI.si.2.2.2.2.2.2.2.2.2.2 b.toNat hb
    have em : jX h (jP h 476 9) ((11 + 33 * b + 2).toNat) = (bM s b.toNat : Int) := by
      rw [hM.p9, hI.es, show (11 + 33 * b + 2).toNat = 11 + 33 * b.toNat + 2 by omega]
      unfold bM
      have := hB.2.2.2.1
      omega
    have hm8 : bM s b.toNat ≤ 8 := by unfold bM; have := hB.2.2.2.2.1; omega
    have tb : 0 ≤ i → 0 ≤ what → jX h (jP h 476 9) ((11 + 33 * b + 9 + 3 * i + what).toNat) = s (11 + 33 * b.toNat + 9 + 3 * i.toNat + what.toNat) := fun q1 q2 => by
      rw [hM.p9, hI.es, show (11 + 33 * b + 9 + 3 * i + what).toNat = 11 + 33 * b.toNat + 9 + 3 * i.toNat + what.toNat by omega]
    apply bX9_change_0
    case q1 => rw [hI.m3]; intro q; exact absurd ok (by omega)
    case q2 => intro _ q; exact ⟨XF.rf, _, rfl, Or.inl ⟨fun z => by have := z.2; omega, rfl⟩⟩
    case q5 => intro _ _ q; exact ⟨XF.rf, _, rfl, Or.inl ⟨fun z => q z.2.2, rfl⟩⟩
    case q4 => rw [em]; intro _ q1 q2 q; exact ⟨XF.rf, _, rfl, Or.inr ⟨⟨ok, by omega, q2⟩, Or.inl ⟨by omega, rfl⟩⟩⟩
    case q3 =>
      rw [em]
      intro _ q1 q2 q o3 o1
      rw [tb (by omega) q2.1]
      refine ⟨XF.rf, _, rfl, Or.inr ⟨⟨ok, by omega, q2⟩, Or.inr ⟨by omega, ?_⟩⟩⟩
      by_cases z : what = 0
      · subst z; exact Or.inl ⟨rfl, rfl⟩
      · obtain rfl : what = 2 := by omega
        exact Or.inr (Or.inr (Or.inl ⟨rfl, rfl⟩))
    case e1 =>
      rw [em]
      intro _ q1 q2 q o3 o1
      subst o1
      rw [tb (by omega) q2.1]
      have hj := hB.2.2.2.2.2.2.1 i.toNat (by unfold bM at q; omega)
      obtain ⟨k, k1, k2, k3⟩ := hj.2.2.2.2.2.2
      refine Ex.mono (eX9_nodeOfWire hM hI.m1 hI.md.2.2.2.2.1 hI.dg.1 hI.dg.2.2.2.2.2.1 k1 k2 k3) ?_
      rintro r g ⟨rfl, rfl⟩
      apply bX9_change_94
      exact ⟨XF.rf, _, rfl, Or.inr ⟨⟨ok, by omega, q2⟩, Or.inr ⟨by omega, Or.inr (Or.inl ⟨rfl, k, k1, k2, k3, rfl⟩)⟩⟩⟩
    case e2 =>
      rw [em]
      intro _ q1 q2 q o3
      have eb : ((b.toNat : Nat) : Int) = b := by omega
      have h9 := eX9_roomOfBlock (d := d) (b := b.toNat) hM hI.es hI.si (by omega) hI.m2w hI.nw6
      rw [eb] at h9
      refine Ex.mono h9 ?_
      rintro r g ⟨rfl, f, ws, hv⟩
      have xf : XF h g := f.xf (fun a ha => by unfold sc; omega) (fun k hk => by unfold sf; omega)
      have hM2 := f.mk hM
      apply bX9_change_51
      case e1 =>
        rw [hM2.p44, hv i.toNat (by omega)]
        refine Ex.mono (eX9_placeOf (v := bV s b.toNat i.toNat) hM2 ws hm8 (fun _ => ⟨i.toNat, by omega, by rw [Nat.zero_add]⟩)) ?_
        rintro r g2 (⟨m, m1, m2, m3, rfl, rfl⟩ | ⟨m1, -⟩)
        · apply bX9_change_62
          refine ⟨xf, _, rfl, Or.inr ⟨⟨ok, by omega, q2⟩, Or.inr ⟨by omega, Or.inr (Or.inr (Or.inr ⟨o3, ?_⟩))⟩⟩⟩
          by_cases z : m ≤ i.toNat
          · rw [pl_at z (by rw [m3, Nat.zero_add]) m2]
          · exact absurd (show bV s b.toNat (0 + i.toNat) = bV s b.toNat (0 + m) by rw [m3, Nat.zero_add]) (m2 i.toNat (by omega))
        · exact absurd (show bV s b.toNat (0 + i.toNat) = bV s b.toNat i.toNat by rw [Nat.zero_add]) (m1 i.toNat (by omega))
      all_goals first
        | exact hM2.x
        | (rw [hM2.p44, hM2.s501]; done)
        | omega
        | (rw [hM2.p44, hM2.s501]; refine Int.lt_of_le_of_lt (b := 47) ?_ (by decide); omega)
    all_goals (try rw [hI.m3])
    all_goals (try rw [em])
    all_goals first
      | exact hM.x
      | (rw [hM.p9, hM.s482]; done)
      | (intros; exact ⟨by omega, by omega⟩)
      | (intros; omega)
      | (intros; rw [hM.p9, hM.s482]; refine Int.lt_of_le_of_lt (b := 208) ?_ (by decide); omega)
  · apply bX9_change_0
    case q1 => intro _; exact ⟨XF.rf, _, rfl, Or.inl ⟨fun z => ok z.1, rfl⟩⟩
    all_goals (try rw [hI.m3])
    all_goals first
      | exact hM.x
      | (rw [hM.p9, hM.s482]; done)
      | omega
      | (intro q; exact absurd q (by omega))
      | (rw [hM.p9, hM.s482]; decide)
theorem pair_change {d d' : Nat} {a b c : Int} (hI : IE h K) : Ex MX8_change (d + 3) [.inr 2, .inl a, .inl b, .inl c] h 0 0 (PR MX9_change (d' + 3) [.inr 476, .inl a, .inl b, .inl c] K) := by
  obtain ⟨D, node, n, nw, nd, wi, sn, ns, code, cm, s, past, u, hI⟩ := hI
  exact pair_q (chv_u hI.dg.2.2.2.2.2.1) hI (eX8_change hI) (fun g hJ => eX9_change hJ)
end MA
