/-! ===== SignalWaves$Design: values of derived signals, of all signals ===== -/
section KN
variable {h g : jH}
theorem eX2_computed {d D a k m o : Nat} {c nv : Nat → Int} (hD : DK h D) (hY : DY h D) (hk : k < 12) (ha : jS h a = (16, 12)) (hne : a ≠ D + 21) (hl : jX h (D + 20) k = (m : Int)) (hc : ∀ j, j < m → jX h (D + 8 + k) j = enc (c (o + 2 * j)) (c (o + 2 * j + 1))) (hW : CW c o m k) (hv : ∀ i, i < k → jX h a i = nv i) (hj : ∀ i, i < k → jv (nv i)) :
    Ex MX2_computed (d + 1) [.inr D, .inl (k : Int), .inr a] h 0 0 (fun v g => v = some (.inl (sk c o nv m 0)) ∧ FX (fun b => b = D + 21) h g) := by
  refine Ex_of_V tX2_computed (Nat.le_of_ble_eq_true rfl) ?_
  apply bX2_computed_0
  obtain ⟨w1, w2, w3⟩ := id hW
  have key : ∀ (t j : Nat) (g : jH) (u : Option jA), j + t = m → FX (fun b => b = D + 21) h g → (∀ i, i < hg c o j → jX g (D + 21) i = sk c o nv j i) →
      V MX2_computed (d + 1) 5 [some (.inr D), some (.inl (k : Int)), some (.inr a), some (.inl ((hg c o j : Nat) : Int)), some (.inl (j : Int)), u] [] g 0 0 (fun v g => v = some (.inl (sk c o nv m 0)) ∧ FX (fun b => b = D + 21) h g) := by
    intro t
    induction t with
    | zero =>
      intro j g u hjm fx hs
      obtain rfl : j = m := by omega
      obtain ⟨d0, d1, d2, d3, d4, d5, d6, d7, d8, d9, d10, d11, d12, d13, d14, d15, d16, d17, d18, d19⟩ := hD.fx fx
      have e20 := fx.2.2.2.2.2 (D + 20) (by omega)
      have hlen : jX g (jP g D 11) ((((k : Nat) : Int)).toNat) = (j : Int) := by rw [d8, e20, Int.toNat_natCast]; exact hl
      have hng : ∀ P : Prop, ¬ (jX g (jP g D 11) ((((k : Nat) : Int)).toNat) ≤ (j : Int)) → P := fun P q => absurd (by rw [hlen]; exact Int.le_refl _) q
      apply bX2_computed_5
      case q1 =>
        intro _
        refine ⟨?_, fx⟩
        rw [d9, hs 0 (by omega)]
      all_goals first
        | exact d0
        | (rw [d8, d17]; done)
        | (rw [d9, d18]; done)
        | (rw [d7, d16]; done)
        | (intros; rw [d9, d18]; decide)
        | (rw [fx.2.2.2.1, ha]; done)
        | (intro q; exact hng _ q)
        | (show (k : Int) < ((jS g (jP g D 11)).2 : Int); rw [d8, d17]; show (k : Int) < 12; omega)
        | omega
    | succ t ih =>
      intro j g u hjm fx hs
      obtain ⟨d0, d1, d2, d3, d4, d5, d6, d7, d8, d9, d10, d11, d12, d13, d14, d15, d16, d17, d18, d19⟩ := hD.fx fx
      obtain ⟨x1, x2⟩ := w3 j (by omega)
      have hkn : (((k : Nat) : Int)).toNat = k := Int.toNat_natCast _
      have e20 := fx.2.2.2.2.2 (D + 20) (by omega)
      have e8 := fx.2.2.2.2.2 (D + 8 + k) (by omega)
      have ea := fx.2.2.2.2.2 a hne
      have hlen : jX g (jP g D 11) ((((k : Nat) : Int)).toNat) = (m : Int) := by rw [d8, e20, hkn]; exact hl
      have hyy : jY g (jP g D 10) ((((k : Nat) : Int)).toNat) = D + 8 + k := by rw [d7, fx.2.2.1, hkn]; exact hY k hk
      have hcc : jX g (jY g (jP g D 10) ((((k : Nat) : Int)).toNat)) ((((j : Nat) : Int)).toNat) = enc (c (o + 2 * j)) (c (o + 2 * j + 1)) := by rw [hyy, e8, Int.toNat_natCast]; exact hc j (by omega)
      have hst : (jS g (jP g D 12)) = (16, 6) := by rw [d9, d18]
      have h6 : hg c o j ≤ 6 := by
        cases j with
        | zero => exact Nat.zero_le _
        | succ j => exact (w3 j (by omega)).1
      have hsj := sk_v hj j (fun i hi => w3 i (by omega))
      -- behind each step
      have tail : ∀ (g2 : jH) (u5 : Int), FX (fun b => b = D + 21) h g2 → (∀ i, i < hg c o (j + 1) → jX g2 (D + 21) i = sk c o nv (j + 1) i) → ∀ z : Int, z = ((hg c o (j + 1) : Nat) : Int) →
          V MX2_computed (d + 1) 149 [some (.inr D), some (.inl (k : Int)), some (.inr a), some (.inl z), some (.inl (j : Int)), some (.inl u5)] [] g2 0 0 (fun v g => v = some (.inl (sk c o nv m 0)) ∧ FX (fun b => b = D + 21) h g) := by
        intro g2 u5 fx2 hs2 z hz
        apply bX2_computed_149
        case r1 => exact ⟨by omega, by omega⟩
        case k1 =>
          rw [hz, show (j : Int) + 1 = ((j + 1 : Nat) : Int) by omega]
          exact ih (j + 1) g2 _ (by omega) fx2 hs2
      -- a value goes onto the stack
      have push : ∀ (v u5 : Int), hg c o (j + 1) = hg c o j + 1 → (∀ i, sk c o nv (j + 1) i = if i = hg c o j then v else sk c o nv j i) →
          V MX2_computed (d + 1) 67 [some (.inr D), some (.inl (k : Int)), some (.inr a), some (.inl ((hg c o j : Nat) : Int)), some (.inl (j : Int)), some (.inl u5)] [.inl v, .inl ((hg c o j : Nat) : Int), .inr (jP g D 12)] g 0 0 (fun v g => v = some (.inl (sk c o nv m 0)) ∧ FX (fun b => b = D + 21) h g) := by
        intro v u5 hh hv2
        apply bX2_computed_67
        case s1 => rw [hst]
        case s2 => omega
        case s3 => rw [hst]; show ((hg c o j : Nat) : Int) < 6; omega
        case r1 => exact ⟨by omega, by omega⟩
        case k1 =>
          rw [d9, Int.toNat_natCast]
          refine tail _ _ (fx.trans (FX.sX rfl)) (fun i hi => ?_) _ (by omega)
          rw [jX_sX, hv2]
          by_cases q : i = hg c o j
          · rw [if_pos ⟨rfl, q⟩, if_pos q]
          · rw [if_neg (fun z => q z.2), if_neg q]; exact hs i (by omega)
      have hng : ∀ P : Prop, (jX g (jP g D 11) ((((k : Nat) : Int)).toNat) ≤ (j : Int)) → P := fun P q => absurd (by rw [hlen]; omega) (Int.not_lt.mpr q)
      have side : ∀ (E : Int), enc (c (o + 2 * j)) (c (o + 2 * j + 1)) = E →
          (E < 0 → V MX2_computed (d + 1) 74 [some (.inr D), some (.inl (k : Int)), some (.inr a), some (.inl ((hg c o j : Nat) : Int)), some (.inl (j : Int)), some (.inl E)] [] g 0 0 (fun v g => v = some (.inl (sk c o nv m 0)) ∧ FX (fun b => b = D + 21) h g)) →
          (0 ≤ E → hg c o j < 6) → (0 ≤ E → E ≤ 2000) → (1000 ≤ E → E - 1000 < k) →
          (1000 ≤ E → V MX2_computed (d + 1) 67 [some (.inr D), some (.inl (k : Int)), some (.inr a), some (.inl ((hg c o j : Nat) : Int)), some (.inl (j : Int)), some (.inl E)] [.inl (jX g a (E - 1000).toNat), .inl ((hg c o j : Nat) : Int), .inr (jP g D 12)] g 0 0 (fun v g => v = some (.inl (sk c o nv m 0)) ∧ FX (fun b => b = D + 21) h g)) →
          (0 ≤ E → E < 1000 → V MX2_computed (d + 1) 67 [some (.inr D), some (.inl (k : Int)), some (.inr a), some (.inl ((hg c o j : Nat) : Int)), some (.inl (j : Int)), some (.inl E)] [.inl E, .inl ((hg c o j : Nat) : Int), .inr (jP g D 12)] g 0 0 (fun v g => v = some (.inl (sk c o nv m 0)) ∧ FX (fun b => b = D + 21) h g)) →
          V MX2_computed (d + 1) 5 [some (.inr D), some (.inl (k : Int)), some (.inr a), some (.inl ((hg c o j : Nat) : Int)), some (.inl (j : Int)), u] [] g 0 0 (fun v g => v = some (.inl (sk c o nv m 0)) ∧ FX (fun b => b = D + 21) h g) := by
        intro E hE y1 y2 y3 y4 y5 y6
        rw [hE] at hcc
        apply bX2_computed_5
        case k1 => rw [hcc]; intro _ q; exact y1 q
        case k2 => rw [hcc, hst]; intro _ q q2; exact absurd (show (6 : Int) ≤ (hg c o j : Int) from q2) (by have := y2 (by omega); omega)
        case k3 => rw [hcc, hst]; intro _ q q2 q3; exact y5 q3
        case k4 => rw [hcc, hst]; intro _ q q2 q3; exact y6 (by omega) (by omega)
        case r1 => rw [hcc]; intro _ q q2 q3; have := y3 (by omega); exact ⟨by omega, by omega⟩
        case q1 => intro q; exact hng _ q
        case s6 => intro q; exact hng _ q
        case s12 => rw [fx.2.2.2.1, ha]
        case s13 => rw [hcc]; intro _ q q2 q3; omega
        case s14 => rw [hcc, fx.2.2.2.1, ha]; intro _ q q2 q3; have := y4 q3; show E - 1000 < 12; omega
        case s9 => rw [hyy, d19 k hk]; intro _; rfl
        case s11 => rw [hyy, d19 k hk]; intro _; show (j : Int) < 17; omega
        case s10 => intro _; omega
        case s8 => rw [d7, d16]; intro _; show (k : Int) < 12; omega
        case s4 => rw [d8, d17]; show (k : Int) < 12; omega
        case s3 => omega
        case s1 => exact d0
        case s2 => rw [d8, d17]
        case s5 => rw [hst]
        case s7 => rw [d7, d16]
      rcases x2 with ⟨e, f1, f2⟩ | ⟨e, f1, f2⟩ | ⟨e, f1⟩ | ⟨e, f1, f2⟩
      · have hh : hg c o (j + 1) = hg c o j + 1 := hg_p (by omega) (by omega)
        refine side (c (o + 2 * j + 1)) (by unfold enc; rw [if_pos e]) (fun q => by omega) (fun _ => by omega) (fun _ => by omega) (fun _ => by omega) (fun _ => by omega) (fun _ _ => ?_)
        refine push _ _ hh (fun i => ?_)
        conv => lhs; unfold sk
        rw [if_neg (by omega), if_neg (by omega), if_pos e]
      · have hh : hg c o (j + 1) = hg c o j + 1 := hg_p (by omega) (by omega)
        refine side (1000 + c (o + 2 * j + 1)) (by unfold enc; rw [if_neg (by omega), if_pos e]) (fun q => by omega) (fun _ => by omega) (fun _ => by omega) (fun _ => by omega) (fun _ => ?_) (fun _ _ => by omega)
        refine push _ _ hh (fun i => ?_)
        conv => lhs; unfold sk
        rw [if_neg (by omega), if_neg (by omega), if_neg (show ¬ c (o + 2 * j) = 0 by omega), show (1000 + c (o + 2 * j + 1) - 1000) = c (o + 2 * j + 1) by omega, ea, hv (c (o + 2 * j + 1)).toNat (by omega)]
      · have hh : hg c o (j + 1) = hg c o j := hg_n e
        refine side (-33) (by unfold enc; rw [if_neg (by omega), if_neg (by omega), if_pos e]) (fun q => ?_) (fun _ => by omega) (fun _ => by omega) (fun _ => by omega) (fun _ => by omega) (fun _ _ => by omega)
        apply bX2_computed_74
        case k1 => intro q; exact absurd rfl q
        case k2 => intro _ q; omega
        case k3 =>
          intro _ _
          rw [d9, show ((hg c o j : Nat) : Int) - 1 = ((hg c o j - 1 : Nat) : Int) by omega, Int.toNat_natCast]
          refine tail _ _ (fx.trans (FX.sX rfl)) (fun i hi => ?_) _ (by omega)
          rw [jX_sX]
          conv => rhs; unfold sk
          rw [if_pos e]
          by_cases q : i + 1 = hg c o j
          · rw [if_pos ⟨rfl, by omega⟩, if_pos q, hs _ (by omega), show hg c o j - 1 = i by omega]
          · rw [if_neg (by omega), if_neg q]; exact hs i (by omega)
        all_goals first
          | exact d0
          | (intros; rw [hst]; done)
          | (rw [hst]; done)
          | (intros; exact ⟨by omega, by omega⟩)
          | (intros; rw [hst]; show ((hg c o j : Nat) : Int) - 1 < 6; omega)
          | (intros; omega)
      · have hh : hg c o (j + 1) = hg c o j - 1 := hg_o e
        have v0 := hs (hg c o j - 2) (by omega)
        have v1 := hs (hg c o j - 1) (by omega)
        have j0 := hsj (hg c o j - 2) (by omega)
        have j1 := hsj (hg c o j - 1) (by omega)
        have n0 : (((hg c o j : Nat) : Int) + (-1) - 1).toNat = hg c o j - 2 := by omega
        have n1 : (((hg c o j : Nat) : Int) + (-1)).toNat = hg c o j - 1 := by omega
        refine side (-c (o + 2 * j + 1)) (by unfold enc; rw [if_neg (by omega), if_neg (by omega), if_neg (by omega)]) (fun q => ?_) (fun _ => by omega) (fun _ => by omega) (fun _ => by omega) (fun _ => by omega) (fun _ _ => by omega)
        apply bX2_computed_74
        case k2 => intro q; omega
        case k3 => intro q; omega
        case k1 =>
          intro _
          apply bX2_computed_108
          case k1 => intro q; omega
          case k2 => intro _ q; omega
          case k3 =>
            intro _ _
            rw [d9, n0, n1, v0, v1]
            refine tail _ _ (fx.trans (FX.sX rfl)) (fun i hi => ?_) _ (by omega)
            rw [jX_sX, Int.neg_neg]
            conv => rhs; unfold sk
            rw [if_neg (show ¬ c (o + 2 * j) = 2 by omega), if_pos e]
            by_cases q : i + 2 = hg c o j
            · rw [if_pos ⟨rfl, by omega⟩, if_pos q, show hg c o j - 2 = i by omega, show hg c o j - 1 = i + 1 by omega]
            · rw [if_neg (by omega), if_neg q]; exact hs i (by omega)
          all_goals first
            | exact d0
            | (intros; rw [hst]; done)
            | (rw [hst]; done)
            | (intros; exact ⟨by omega, by omega⟩)
            | (intros; rw [hst]; refine Int.lt_of_le_of_lt (b := 5) ?_ (by decide); omega)
            | (intros; rw [d9, n0, v0]; unfold jv at j0; omega)
            | (intros; rw [d9, n1, v1]; unfold jv at j1; omega)
            | (intros; omega)
        all_goals first
          | exact d0
          | (rw [hst]; done)
          | (intro q; omega)
  have h9 := key m 0 h none (by omega) FX.rf (fun i hi => absurd hi (Nat.not_lt_zero _))
  exact h9
end KN
section KO
variable {h g : jH} {node wi sn code cm w : Nat → Int} {n nw nd ns : Nat}
theorem eX2_complete {d D a : Nat} (hD : DK h D) (hY : DY h D) (hR : DRep h D node n nw nd wi sn ns code cm) (hn : n ≤ 12) (hB : ∀ k, k < n → NB node nw nd ns code cm k) (hw : ∀ i, i < nw → jv (w i)) (ha : jS h a = (16, 12)) (hne : a < D ∨ D + 22 ≤ a) (hv : ∀ k, k < n → node (6 * k) = 0 → jX h a k = w (wr node k)) :
    Ex MX2_complete (d + 2) [.inr D, .inr a] h 0 0 (fun v g => v = none ∧ FX (fun b => b = a ∨ b = D + 21) h g ∧ ∀ i, i < n → jX g a i = nvs node code cm w n i) := by
  refine Ex_of_V tX2_complete (Nat.le_of_ble_eq_true rfl) ?_
  apply bX2_complete_0
  have key : ∀ (t k : Nat) (g : jH), k + t = n → FX (fun b => b = a ∨ b = D + 21) h g → (∀ i, i < k → jX g a i = nvs node code cm w k i) → (∀ i, i < n → k ≤ i → node (6 * i) = 0 → jX g a i = w (wr node i)) →
      V MX2_complete (d + 2) 2 [some (.inr D), some (.inr a), some (.inl (k : Int))] [] g 0 0 (fun v g => v = none ∧ FX (fun b => b = a ∨ b = D + 21) h g ∧ ∀ i, i < n → jX g a i = nvs node code cm w n i) := by
    intro t
    induction t with
    | zero =>
      intro k g hk fx h1 h2
      obtain rfl : k = n := by omega
      obtain ⟨d0, d1, d2, d3, d4, d5, d6, d7, d8, d9, d10, d11, d12, d13, d14, d15, d16, d17, d18, d19⟩ := hD.fx fx
      have hcnt : jI g D 0 = (k : Int) := by rw [fx.1]; exact hR.1
      have hng : ∀ P : Prop, ¬ (jI g D 0 ≤ (k : Int)) → P := fun P q => absurd (by rw [hcnt]; exact Int.le_refl _) q
      apply bX2_complete_2
      case q1 => intro _; exact ⟨rfl, fx, h1⟩
      all_goals first
        | exact d0
        | (rw [d1, d10]; done)
        | (rw [d2, d11]; done)
        | (rw [fx.2.2.2.1, ha]; done)
        | (intro q; exact hng _ q)
        | omega
    | succ t ih =>
      intro k g hk fx h1 h2
      obtain ⟨d0, d1, d2, d3, d4, d5, d6, d7, d8, d9, d10, d11, d12, d13, d14, d15, d16, d17, d18, d19⟩ := hD.fx fx
      have hR2 := hR.fx fx hn (fun b hb => by omega)
      have hkn : (((k : Nat) : Int)).toNat = k := Int.toNat_natCast _
      obtain ⟨r0, -, -, -, r4, -⟩ := id hR2
      obtain ⟨n0, n1, n2, n3, n4, n5⟩ := r4 k (by omega)
      have hkind : jX g (jP g D 4) ((((k : Nat) : Int)).toNat) = node (6 * k) := by rw [d1, hkn]; exact n0
      have hlt : ¬ (jI g D 0 ≤ (k : Int)) := by rw [r0]; omega
      have hjv := nvs_v hw hB k (by omega)
      have hb := hB k (by omega)
      -- the value of signal k is laid
      have next : ∀ (g2 : jH) (v : Int), FX (fun b => b = a ∨ b = D + 21) h g2 → jX g2 a = jX g a → v = nvs node code cm w (k + 1) k → V MX2_complete (d + 2) 2 [some (.inr D), some (.inr a), some (.inl (((k + 1 : Nat)) : Int))] [] (jsX g2 a k v) 0 0 (fun v g => v = none ∧ FX (fun b => b = a ∨ b = D + 21) h g ∧ ∀ i, i < n → jX g a i = nvs node code cm w n i) := by
        intro g2 v fx2 e2 hv
        refine ih (k + 1) _ (by omega) (fx2.trans (FX.sX (Or.inl rfl))) (fun i hi => ?_) (fun i hi hki hw0 => ?_)
        · rw [jX_sX]
          by_cases q : i = k
          · subst q; rw [if_pos ⟨rfl, rfl⟩, hv]
          · rw [if_neg (fun z => q z.2), e2, h1 i (by omega), nvs_le (k := k) (n := k + 1) (by omega) (by omega)]
        · rw [jX_sX, if_neg (by omega), e2]; exact h2 i hi (by omega) hw0
      have hcase : (node (6 * k) = 0 ∧ w (wr node k) = nvs node code cm w (k + 1) k) ∨ (node (6 * k) = 1 ∧ 0 ≤ node (6 * k + 2) ∧ node (6 * k + 2) < k ∧ nvs node code cm w k (node (6 * k + 2)).toNat = nvs node code cm w (k + 1) k) ∨ (node (6 * k) = 2 ∧ 0 ≤ cm (wr node k) ∧ CW code (40 * wr node k) (cm (wr node k)).toNat k ∧ sk code (40 * wr node k) (nvs node code cm w k) (cm (wr node k)).toNat 0 = nvs node code cm w (k + 1) k) := by
        rcases hb.1 with ⟨e, f⟩ | ⟨e, -, f1, f2⟩ | ⟨e, -, -, -, -, f1, f2⟩
        · refine Or.inl ⟨e, ?_⟩
          conv => rhs; unfold nvs
          rw [if_pos rfl, if_pos e]
        · refine Or.inr (Or.inl ⟨e, f1, f2, ?_⟩)
          conv => rhs; unfold nvs
          rw [if_pos rfl, if_neg (by omega), if_pos e]
        · refine Or.inr (Or.inr ⟨e, f1, f2, ?_⟩)
          conv => rhs; unfold nvs
          rw [if_pos rfl, if_neg (by omega), if_neg (by omega)]
      have hj1 : (k : Int) + 1 = ((k + 1 : Nat) : Int) := by omega
      apply bX2_complete_2
      case q1 => intro q; exact absurd q hlt
      case r1 => intro _ _ _; exact ⟨by omega, by omega⟩
      case r2 => intro _ _; exact ⟨by omega, by omega⟩
      case k1 =>
        rw [hkind]
        intro _ q1 q2
        have e0 : node (6 * k) = 0 := by rcases hcase with z | z | z <;> omega
        have e1 := (h2 k (by omega) (Nat.le_refl _) e0)
        have h9 : jsX g a k (w (wr node k)) = g := by
          refine jH_ext (fun _ _ => rfl) (fun _ _ => rfl) (fun b j => ?_) (fun _ _ => rfl) rfl rfl
          rw [jX_sX]
          by_cases q : b = a ∧ j = k
          · rw [if_pos q, q.1, q.2, e1]
          · rw [if_neg q]
        have h8 := next g (w (wr node k)) fx rfl (by rcases hcase with z | z | z <;> first | exact z.2 | omega)
        rw [h9] at h8
        rw [hj1]
        exact h8
      case e1 =>
        rw [hkind]
        intro _ q1 q2
        obtain ⟨c1, c2, c3, c4⟩ : node (6 * k) = 2 ∧ 0 ≤ cm (wr node k) ∧ CW code (40 * wr node k) (cm (wr node k)).toNat k ∧ sk code (40 * wr node k) (nvs node code cm w k) (cm (wr node k)).toNat 0 = nvs node code cm w (k + 1) k := by
          rcases hcase with z | z | z
          · omega
          · omega
          · exact z
        obtain ⟨m1, m2⟩ := n5 c1
        refine Ex.mono (eX2_computed (m := (cm (wr node k)).toNat) (o := 40 * wr node k) (c := code) (nv := nvs node code cm w k) (hD.fx fx) (by unfold DY; rw [fx.2.2.1]; exact hY) (by omega) (by rw [fx.2.2.2.1]; exact ha) (by omega) (by rw [m1]; omega) (fun j hj => m2 j (by omega)) c3 h1 hjv) ?_
        rintro v g2 ⟨rfl, fx2⟩
        apply bX2_complete_52
        case s1 => rw [fx2.2.2.2.1, fx.2.2.2.1, ha]
        case s2 => omega
        case s3 => rw [fx2.2.2.2.1, fx.2.2.2.1, ha]; show (k : Int) < 12; omega
        case r1 => exact ⟨by omega, by omega⟩
        case k1 =>
          rw [hj1, hkn]
          exact next g2 _ (fx.trans (fx2.wide (fun b hb => Or.inr hb))) (fx2.2.2.2.2.2 a (by omega)) c4
      case k2 =>
        rw [hkind]
        intro _ q1
        obtain ⟨c1, c2, c3, c4⟩ : node (6 * k) = 1 ∧ 0 ≤ node (6 * k + 2) ∧ node (6 * k + 2) < k ∧ nvs node code cm w k (node (6 * k + 2)).toNat = nvs node code cm w (k + 1) k := by
          rcases hcase with z | z | z
          · omega
          · exact z
          · omega
        rw [hj1, hkn, d2, n4 c1]
        exact next g _ fx rfl (by rw [h1 _ (by omega), c4])
      all_goals first
        | exact d0
        | (rw [d1, d10]; done)
        | (rw [d2, d11]; done)
        | (rw [fx.2.2.2.1, ha]; done)
        | (intros; rw [d1, d10]; show (k : Int) < 12; omega)
        | (intros; rw [d2, d11]; show (k : Int) < 12; omega)
        | (intros; rw [fx.2.2.2.1, ha]; show (k : Int) < 12; omega)
        | (intros; omega)
        | (rw [hkind]; intro _ q1; rw [d2, hkn, n4 q1]; have := hb.1; omega)
        | (rw [hkind]; intro _ q1; rw [d2, hkn, n4 q1, fx.2.2.2.1, ha]; have := hb.1; show node (6 * k + 2) < 12; omega)
  have h9 := key n 0 h (by omega) FX.rf (fun i hi => absurd hi (Nat.not_lt_zero _)) (fun i hi _ hw0 => hv i hi hw0)
  exact h9
end KO
