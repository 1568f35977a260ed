/-! ===== both sides: listed ===== -/
section MK3
variable {h g : jH} {node wi sn code cm s past : Nat → Int} {n nw nd ns u D : Nat} {K x c : Int} {f q : Nat → Int}
/-- the last of the first n with this home and this name, or -9 -/
def fnd (f q : Nat → Int) (x c : Int) : Nat → Int
  | 0 => -9
  | n + 1 => if f n = x ∧ q n = c then (n : Int) else fnd f q x c n
theorem has_fnd : ∀ n, has f q n x c (fnd f q x c n)
  | 0 => Or.inr ⟨fun k hk => absurd hk (Nat.not_lt_zero _), rfl⟩
  | n + 1 => by
    unfold fnd
    by_cases z : f n = x ∧ q n = c
    · rw [if_pos z]; exact Or.inl ⟨n, by omega, z.1, z.2, rfl⟩
    · rw [if_neg z]
      rcases has_fnd n with ⟨k, k1, k2, k3, k4⟩ | ⟨k1, k2⟩
      · exact Or.inl ⟨k, by omega, k2, k3, k4⟩
      · refine Or.inr ⟨fun k hk => ?_, k2⟩
        by_cases y : k = n
        · rw [y]; exact z
        · exact k1 k (by omega)
/-- the node, and the scope, of this name in this scope -/
def fN (node : Nat → Int) (n : Nat) (x c : Int) : Int := fnd (fun k => node (6 * k + 3)) (fun k => node (6 * k + 4)) x c n
def fS (wi sn : Nat → Int) (ns : Nat) (x c : Int) : Int := fnd wi sn x c ns
theorem fN_u {z : Int} (hG : DG node n nw nd wi sn ns code cm) (h1 : has (fun k => node (6 * k + 3)) (fun k => node (6 * k + 4)) n x c z) : z = fN node n x c :=
  has_u (fun j k hj hk e1 e2 => hG.2.2.2.2.2.2.2.1 j k hj hk e1 e2) h1 (has_fnd n)
theorem fS_u {z : Int} (hG : DG node n nw nd wi sn ns code cm) (h1 : has wi sn ns x c z) : z = fS wi sn ns x c :=
  has_u (fun j k hj hk e1 e2 => hG.2.2.2.2.2.2.2.2.1 j k hj hk e1 e2) h1 (has_fnd ns)
theorem fN_b : fN node n x c = -9 ∨ (0 ≤ fN node n x c ∧ fN node n x c < n) := has_b (has_fnd n)
theorem fS_b : fS wi sn ns x c = -9 ∨ (0 ≤ fS wi sn ns x c ∧ fS wi sn ns x c < ns) := has_b (has_fnd ns)
theorem tp_iff {x y : Int} (hx : x = -9 ∨ 0 ≤ x) (hy : y = -9 ∨ 0 ≤ y) : tp y = tp x ↔ y = x := by
  unfold tp
  split <;> split <;> constructor <;> intro z <;> omega
def nmv (node : Nat → Int) (n : Nat) (wi sn : Nat → Int) (ns : Nat) (x c : Int) : Int := nmc (fN node n x c) (fS wi sn ns x c)
/-- the class's search, where what is told is in its bounds -/
theorem eX2_nm {d : Nat} (hD : DK h D) (hR : DRep h D node n nw nd wi sn ns code cm) (hG : DG node n nw nd wi sn ns code cm) (hx : x = -9 ∨ 0 ≤ x) :
    Ex MX2_named d [.inr D, .inl (tp x), .inl c] h 0 0 (fun r g => r = some (.inl (nmv node n wi sn ns x c)) ∧ g = h) := by
  obtain ⟨r0, r1, r2, r3, r4, r5⟩ := id hR
  obtain ⟨g1, g2, g3, g4, g5, g6, g7, -⟩ := id hG
  refine Ex.mono (eX2_named hD r0 g1 r3 g4) ?_
  rintro r g ⟨⟨z1, z2, h1, h2, rfl⟩, rfl⟩
  refine ⟨?_, rfl⟩
  have e1 := fN_u hG (has_cong (f' := fun k => node (6 * k + 3)) (q' := fun k => node (6 * k + 4)) (x' := x) (fun k hk => by
    have hr := r4 k hk
    have hb := (g5 k hk).2.1
    show (jX g (D + 3) k = tp x ↔ node (6 * k + 3) = x) ∧ jX g (D + 4) k = node (6 * k + 4)
    rw [hr.2.1]
    exact ⟨tp_iff hx (by omega), hr.2.2.1⟩) h1)
  have e2 := fS_u hG (has_cong (f' := wi) (q' := sn) (x' := x) (fun k hk => by
    have hr := r5 k hk
    have hb := (g7 k hk).1
    rw [hr.1]
    exact ⟨tp_iff hx (by omega), hr.2⟩) h2)
  rw [e1, e2]
  rfl
def lsP (node : Nat → Int) (n : Nat) (wi sn : Nat → Int) (ns : Nat) (x : Int) (c : Nat) : Prop := nmv node n wi sn ns x c ≠ -9
def lsS (node : Nat → Int) (n : Nat) (wi sn : Nat → Int) (ns : Nat) (x k z : Int) : Prop :=
  (∃ c : Nat, c < 26 ∧ lsP node n wi sn ns x c ∧ (ctc (lsP node n wi sn ns x) c : Int) = k ∧ (∀ e, e < c → lsP node n wi sn ns x e → (ctc (lsP node n wi sn ns x) e : Int) ≠ k) ∧ z = nmv node n wi sn ns x c) ∨
  ((∀ c : Nat, c < 26 → lsP node n wi sn ns x c → (ctc (lsP node n wi sn ns x) c : Int) ≠ k) ∧ z = -9)
theorem lsS_u {k : Int} : ∀ z z', lsS node n wi sn ns x k z → lsS node n wi sn ns x k z' → z = z' := by
  intro z z' h1 h2
  rcases h1 with ⟨a, a1, a2, a3, a4, a5⟩ | ⟨a1, a2⟩ <;> rcases h2 with ⟨b, b1, b2, b3, b4, b5⟩ | ⟨b1, b2⟩
  · by_cases q : a < b
    · exact absurd a3 (b4 a q a2)
    · by_cases q2 : b < a
      · exact absurd b3 (a4 b q2 b2)
      · rw [a5, b5, show a = b by omega]
  · exact absurd a3 (b1 a a1 a2)
  · exact absurd b3 (a1 b b1 b2)
  · omega
def okl (ns : Nat) (a k : Int) : Prop := (-1 ≤ a ∧ a < ns) ∧ 0 ≤ k
def lsc (a : Int) : Int := if 0 ≤ a then a else -9
theorem eX8_listed {d : Nat} {a k : Int} (hI : IV h D node n nw nd wi sn ns code cm s past u K) :
    Ex MX8_listed (d + 1) [.inr 2, .inl a, .inl k] h 0 0 (fun v g => XF h g ∧ ∃ z, v = some (.inl z) ∧ QR (okl ns a k) (lsS node n wi sn ns (lsc a) k) z) := by
  have hx := hI.x
  obtain ⟨d1, d2, d3, d4⟩ := hI.dd
  have n3 : jI h (jP h 2 1) 3 = (ns : Int) := by rw [d2]; exact hI.dr.2.2.2.1
  refine Ex_of_V tX8_listed (Nat.le_of_ble_eq_true rfl) ?_
  apply bX8_listed_0
  case q1 => intro q; exact ⟨XF.rf, _, rfl, Or.inl ⟨fun z => by have := z.1; omega, rfl⟩⟩
  case q2 => rw [n3]; intro _ q; exact ⟨XF.rf, _, rfl, Or.inl ⟨fun z => by have := z.1; omega, rfl⟩⟩
  case q3 => intro _ _ q; exact ⟨XF.rf, _, rfl, Or.inl ⟨fun z => q z.2, rfl⟩⟩
  case k1 =>
    rw [n3]
    intro o1 o2 o3
    have ok : okl ns a k := ⟨by omega, o3⟩
    have et : tp (lsc a) = a := by
      unfold tp lsc
      split <;> split <;> omega
    have hlc : lsc a = -9 ∨ 0 ≤ lsc a := by
      unfold lsc
      split <;> omega
    have key : ∀ w c : Nat, c + w = 26 → (∀ e, e < c → lsP node n wi sn ns (lsc a) e → (ctc (lsP node n wi sn ns (lsc a)) e : Int) ≠ k) → ∀ u5, V MX8_listed (d + 1) 27 [some (.inr 2), some (.inl a), some (.inl k), some (.inl (ctc (lsP node n wi sn ns (lsc a)) c : Int)), some (.inl (c : Int)), u5] [] h 0 0 (fun v g => XF h g ∧ ∃ z, v = some (.inl z) ∧ QR (okl ns a k) (lsS node n wi sn ns (lsc a) k) z) := by
      intro w
      induction w with
      | zero =>
        intro c hc hno u5
        obtain rfl : c = 26 := by omega
        apply bX8_listed_27
        case q1 => intro _; exact ⟨XF.rf, _, rfl, Or.inr ⟨ok, Or.inr ⟨fun e he hp => hno e he hp, rfl⟩⟩⟩
        case e1 => intro z; omega
        all_goals first
          | exact hx.s2
          | exact hI.dk
      | succ w ih =>
        intro c hc hno u5
        have hcl := ctc_le (P := lsP node n wi sn ns (lsc a)) c
        have e1 : (c : Int) + 1 = ((c + 1 : Nat) : Int) := by omega
        apply bX8_listed_27
        case q1 => intro z; omega
        case e1 =>
          intro _
          rw [d2]
          have h9 := eX2_nm (d := d) (c := (c : Int)) d3 hI.dr hI.dg hlc
          rw [et] at h9
          refine Ex.mono h9 ?_
          rintro r g ⟨rfl, rfl⟩
          apply bX8_listed_44
          case k1 =>
            rw [e1]
            intro y _
            have hn : ¬ lsP node n wi sn ns (lsc a) c := fun z => z y
            rw [← ctc_n hn]
            refine ih (c + 1) (by omega) (fun e he hp => ?_) _
            by_cases z : e = c
            · exact absurd (by rw [z] at hp; exact hp) hn
            · exact hno e (by omega) hp
          case k2 => intro y y2; exact absurd y y2
          case k3 => intro y _ y2; exact absurd y2 y
          case k4 =>
            rw [e1]
            intro y y2 _
            rw [show (ctc (lsP node n wi sn ns (lsc a)) c : Int) + 1 = (ctc (lsP node n wi sn ns (lsc a)) (c + 1) : Int) by rw [ctc_p (show lsP node n wi sn ns (lsc a) c from y)]; omega]
            refine ih (c + 1) (by omega) (fun e he hp => ?_) _
            by_cases z : e = c
            · rw [z]; exact y2
            · exact hno e (by omega) hp
          case q1 =>
            intro y y2
            exact ⟨XF.rf, _, rfl, Or.inr ⟨ok, Or.inl ⟨c, by omega, y, y2, hno, rfl⟩⟩⟩
          all_goals (intros; exact ⟨by omega, by omega⟩)
        all_goals first
          | exact hx.s2
          | exact hI.dk
    exact key 26 0 (by omega) (fun e he => absurd he (Nat.not_lt_zero _)) _
  all_goals first
    | exact hx.s2
    | exact hI.dk
theorem eX9_listed {d : Nat} {a k : Int} (hI : IV h D node n nw nd wi sn ns code cm s past u K) (hk31 : k < 2147483648) :
    Ex MX9_listed (d + 2) [.inr 476, .inl a, .inl k] h 0 0 (fun v g => XF h g ∧ ∃ z, v = some (.inl z) ∧ QR (okl ns a k) (lsS node n wi sn ns (lsc a) k) z) := by
  have hM := hI.mk
  obtain ⟨m1, m2, m3, m4, m5, m6, m7, m8, m9⟩ := id hI.md
  have g4 := hI.dg.2.2.2.1
  refine Ex_of_V tX9_listed (Nat.le_of_ble_eq_true rfl) ?_
  have main : okl ns a k → V MX9_listed (d + 2) 37 [some (.inr 476), some (.inl a), some (.inl k), some (.inl (lsc a)), some (.inl k), some (.inl 0), none, none] [] h 0 0 (fun v g => XF h g ∧ ∃ z, v = some (.inl z) ∧ QR (okl ns a k) (lsS node n wi sn ns (lsc a) k) z) := by
    intro ok
    have hk0 := ok.2
    have key : ∀ w c : Nat, c + w = 26 → (∀ e, e < c → lsP node n wi sn ns (lsc a) e → (ctc (lsP node n wi sn ns (lsc a)) e : Int) ≠ k) → (ctc (lsP node n wi sn ns (lsc a)) c : Int) ≤ k → ∀ u6 u7, V MX9_listed (d + 2) 37 [some (.inr 476), some (.inl a), some (.inl k), some (.inl (lsc a)), some (.inl (k - (ctc (lsP node n wi sn ns (lsc a)) c : Int))), some (.inl (c : Int)), u6, u7] [] h 0 0 (fun v g => XF h g ∧ ∃ z, v = some (.inl z) ∧ QR (okl ns a k) (lsS node n wi sn ns (lsc a) k) z) := by
      intro w
      induction w with
      | zero =>
        intro c hc hno hle u6 u7
        obtain rfl : c = 26 := by omega
        apply bX9_listed_37
        case q1 => intro _; exact ⟨XF.rf, _, rfl, Or.inr ⟨ok, Or.inr ⟨fun e he hp => hno e he hp, rfl⟩⟩⟩
        case e1 => intro z; omega
        all_goals exact hM.x
      | succ w ih =>
        intro c hc hno hle u6 u7
        have hcl := ctc_le (P := lsP node n wi sn ns (lsc a)) c
        have e1 : (c : Int) + 1 = ((c + 1 : Nat) : Int) := by omega
        apply bX9_listed_37
        case q1 => intro z; omega
        case e1 =>
          intro _
          refine Ex.mono (eX9_nodeBy (x := lsc a) (c := (c : Int)) hM m1 hI.dg.1) ?_
          rintro r g ⟨⟨z1, rfl, hz1⟩, rfl⟩
          rw [m5] at hz1
          obtain rfl := fN_u hI.dg hz1
          apply bX9_listed_51
          case e1 =>
            refine Ex.mono (eX9_scopeBy (x := lsc a) (c := (c : Int)) hM m4 g4) ?_
            rintro r g ⟨⟨z2, rfl, hz2⟩, rfl⟩
            rw [m6, m7] at hz2
            obtain rfl := fS_u hI.dg hz2
            have hb2 : fS wi sn ns (lsc a) c = -9 ∨ (0 ≤ fS wi sn ns (lsc a) c ∧ fS wi sn ns (lsc a) c < ns) := fS_b
            have hb1 : fN node n (lsc a) c = -9 ∨ (0 ≤ fN node n (lsc a) c ∧ fN node n (lsc a) c < n) := fN_b
            have v1 : fN node n (lsc a) c ≠ -9 → nmv node n wi sn ns (lsc a) c = fN node n (lsc a) c := fun y => if_pos y
            have v2 : fN node n (lsc a) c = -9 → fS wi sn ns (lsc a) c ≠ -9 → nmv node n wi sn ns (lsc a) c = 100 + fS wi sn ns (lsc a) c := fun y y2 => by
              unfold nmv nmc
              rw [if_neg (by omega), if_pos y2]
            have v3 : fN node n (lsc a) c = -9 → fS wi sn ns (lsc a) c = -9 → nmv node n wi sn ns (lsc a) c = -9 := fun y y2 => by
              unfold nmv nmc
              rw [if_neg (by omega), if_neg (by omega)]
            have skip : ∀ i6 i7, lsP node n wi sn ns (lsc a) c → k - (ctc (lsP node n wi sn ns (lsc a)) c : Int) ≠ 0 → V MX9_listed (d + 2) 37 [some (.inr 476), some (.inl a), some (.inl k), some (.inl (lsc a)), some (.inl (k - (ctc (lsP node n wi sn ns (lsc a)) c : Int) + -1)), some (.inl ((c : Int) + 1)), i6, i7] [] g 0 0 (fun v g' => XF g g' ∧ ∃ z, v = some (.inl z) ∧ QR (okl ns a k) (lsS node n wi sn ns (lsc a) k) z) := by
              intro i6 i7 hp hne
              rw [e1, show k - (ctc (lsP node n wi sn ns (lsc a)) c : Int) + -1 = k - (ctc (lsP node n wi sn ns (lsc a)) (c + 1) : Int) by rw [ctc_p hp]; omega]
              refine ih (c + 1) (by omega) (fun e he hp => ?_) (by rw [ctc_p hp]; omega) _ _
              by_cases z : e = c
              · rw [z]; omega
              · exact hno e (by omega) hp
            have hit : ∀ z, lsP node n wi sn ns (lsc a) c → k - (ctc (lsP node n wi sn ns (lsc a)) c : Int) = 0 → z = nmv node n wi sn ns (lsc a) c → (XF g g ∧ ∃ z', some (Sum.inl z) = (some (.inl z') : Option jA) ∧ QR (okl ns a k) (lsS node n wi sn ns (lsc a) k) z') := by
              intro z hp he hz
              exact ⟨XF.rf, _, rfl, Or.inr ⟨ok, Or.inl ⟨c, by omega, hp, by omega, hno, hz⟩⟩⟩
            apply bX9_listed_60
            case k1 => intro y y2; exact skip _ _ (by unfold lsP; rw [v1 y]; exact y) y2
            case q1 => intro y _ y2; exact absurd y2 y
            case q2 => intro y y2 _; exact hit _ (by unfold lsP; rw [v1 y]; exact y) y2 (v1 y).symm
            case k2 =>
              intro y y2
              have hn : ¬ lsP node n wi sn ns (lsc a) c := fun z => z (v3 y y2)
              rw [e1, ← ctc_n hn]
              refine ih (c + 1) (by omega) (fun e he hp => ?_) (by rw [ctc_n hn]; exact hle) _ _
              by_cases z : e = c
              · exact absurd (by rw [z] at hp; exact hp) hn
              · exact hno e (by omega) hp
            case k3 => intro y y2 y3; exact skip _ _ (by unfold lsP; rw [v2 y y2]; omega) y3
            case q3 => intro y y2 y3 _; exact hit _ (by unfold lsP; rw [v2 y y2]; omega) y3 (v2 y y2).symm
            case q4 => intro y _ _ y2; exact absurd y y2
            all_goals (intros; exact ⟨by omega, by omega⟩)
          all_goals exact hM.x
        all_goals exact hM.x
    have h9 := key 26 0 (by omega) (fun e he => absurd he (Nat.not_lt_zero _)) hk0 none none
    rw [show k - (ctc (lsP node n wi sn ns (lsc a)) 0 : Int) = k by show k - 0 = k; omega] at h9
    exact h9
  apply bX9_listed_0
  case q1 => rw [m4]; intro q; exact ⟨XF.rf, _, rfl, Or.inl ⟨fun z => q (by have := z.1; omega), rfl⟩⟩
  case q2 => intro _ q; exact ⟨XF.rf, _, rfl, Or.inl ⟨fun z => q z.2, rfl⟩⟩
  case k1 =>
    rw [m4]
    intro o1 o2 o3
    have h9 := main ⟨by omega, o2⟩
    rw [show lsc a = a from if_pos o3] at h9
    rw [show lsc a = a from if_pos o3]
    exact h9
  case k2 =>
    rw [m4]
    intro o1 o2 o3
    have h9 := main ⟨by omega, o2⟩
    rw [show lsc a = -9 from if_neg o3] at h9
    rw [show lsc a = -9 from if_neg o3]
    exact h9
  case r1 => rw [m4]; exact ⟨by omega, by omega⟩
  all_goals exact hM.x
theorem pair_listed {d d' : Nat} {a b : Int} (hI : IE h K) (hb : b < 2147483648) : Ex MX8_listed (d + 1) [.inr 2, .inl a, .inl b] h 0 0 (PR MX9_listed (d' + 2) [.inr 476, .inl a, .inl b] K) := by
  obtain ⟨D, node, n, nw, nd, wi, sn, ns, code, cm, s, past, u, hI⟩ := hI
  exact pair_q lsS_u hI (eX8_listed hI) (fun g hJ => eX9_listed hJ hb)
end MK3
