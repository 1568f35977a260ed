/-! ===== the model's cells ===== -/
section KP
variable {h g : jH}
def MK (h : jH) : Prop := (jS h 476).1 = 9 ∧ jP h 476 0 = 477 ∧ jP h 476 4 = 478 ∧ jP h 476 5 = 479 ∧ jP h 476 7 = 480 ∧ jP h 476 8 = 481 ∧ jP h 476 9 = 482 ∧ jP h 476 10 = 483 ∧ jP h 476 12 = 484 ∧ jP h 476 13 = 485 ∧ jP h 476 14 = 486 ∧ jP h 476 21 = 487 ∧ jP h 476 25 = 488 ∧ jP h 476 26 = 489 ∧ jP h 476 28 = 490 ∧ jP h 476 29 = 491 ∧ jP h 476 32 = 492 ∧ jP h 476 36 = 493 ∧ jP h 476 37 = 494 ∧ jP h 476 38 = 495 ∧ jP h 476 39 = 496 ∧ jP h 476 40 = 497 ∧ jP h 476 41 = 498 ∧ jP h 476 42 = 499 ∧ jP h 476 43 = 500 ∧ jP h 476 44 = 501 ∧ jP h 476 46 = 502 ∧ jP h 476 48 = 503 ∧ jS h 477 = (16, 72) ∧ jS h 478 = (16, 6) ∧ jS h 479 = (16, 6) ∧ jS h 480 = (16, 160) ∧ jS h 481 = (16, 4) ∧ jS h 482 = (16, 209) ∧ jS h 483 = (16, 1254) ∧ jS h 484 = (16, 418) ∧ jS h 485 = (17, 2) ∧ jS h 486 = (16, 160) ∧ jS h 487 = (16, 72) ∧ jS h 488 = (16, 6) ∧ jS h 489 = (16, 6) ∧ jS h 490 = (16, 160) ∧ jS h 491 = (16, 4) ∧ jS h 492 = (16, 16) ∧ jS h 493 = (16, 12) ∧ jS h 494 = (16, 8) ∧ jS h 495 = (16, 6) ∧ jS h 496 = (17, 1002) ∧ jS h 497 = (16, 1000) ∧ jS h 498 = (16, 12) ∧ jS h 499 = (17, 1000) ∧ jS h 500 = (16, 48) ∧ jS h 501 = (16, 48) ∧ jS h 502 = (16, 8) ∧ jS h 503 = (16, 12)
theorem MK.x (hM : MK h) : (jS h 476).1 = 9 := hM.1
theorem MK.p0 (hM : MK h) : jP h 476 0 = 477 := hM.2.1
theorem MK.p4 (hM : MK h) : jP h 476 4 = 478 := hM.2.2.1
theorem MK.p5 (hM : MK h) : jP h 476 5 = 479 := hM.2.2.2.1
theorem MK.p7 (hM : MK h) : jP h 476 7 = 480 := hM.2.2.2.2.1
theorem MK.p8 (hM : MK h) : jP h 476 8 = 481 := hM.2.2.2.2.2.1
theorem MK.p9 (hM : MK h) : jP h 476 9 = 482 := hM.2.2.2.2.2.2.1
theorem MK.p10 (hM : MK h) : jP h 476 10 = 483 := hM.2.2.2.2.2.2.2.1
theorem MK.p12 (hM : MK h) : jP h 476 12 = 484 := hM.2.2.2.2.2.2.2.2.1
theorem MK.p13 (hM : MK h) : jP h 476 13 = 485 := hM.2.2.2.2.2.2.2.2.2.1
theorem MK.p14 (hM : MK h) : jP h 476 14 = 486 := hM.2.2.2.2.2.2.2.2.2.2.1
theorem MK.p21 (hM : MK h) : jP h 476 21 = 487 := hM.2.2.2.2.2.2.2.2.2.2.2.1
theorem MK.p25 (hM : MK h) : jP h 476 25 = 488 := hM.2.2.2.2.2.2.2.2.2.2.2.2.1
theorem MK.p26 (hM : MK h) : jP h 476 26 = 489 := hM.2.2.2.2.2.2.2.2.2.2.2.2.2.1
theorem MK.p28 (hM : MK h) : jP h 476 28 = 490 := hM.2.2.2.2.2.2.2.2.2.2.2.2.2.2.1
theorem MK.p29 (hM : MK h) : jP h 476 29 = 491 := hM.2.2.2.2.2.2.2.2.2.2.2.2.2.2.2.1
theorem MK.p32 (hM : MK h) : jP h 476 32 = 492 := hM.2.2.2.2.2.2.2.2.2.2.2.2.2.2.2.2.1
theorem MK.p36 (hM : MK h) : jP h 476 36 = 493 := hM.2.2.2.2.2.2.2.2.2.2.2.2.2.2.2.2.2.1
theorem MK.p37 (hM : MK h) : jP h 476 37 = 494 := hM.2.2.2.2.2.2.2.2.2.2.2.2.2.2.2.2.2.2.1
theorem MK.p38 (hM : MK h) : jP h 476 38 = 495 := hM.2.2.2.2.2.2.2.2.2.2.2.2.2.2.2.2.2.2.2.1
theorem MK.p39 (hM : MK h) : jP h 476 39 = 496 := hM.2.2.2.2.2.2.2.2.2.2.2.2.2.2.2.2.2.2.2.2.1
theorem MK.p40 (hM : MK h) : jP h 476 40 = 497 := hM.2.2.2.2.2.2.2.2.2.2.2.2.2.2.2.2.2.2.2.2.2.1
theorem MK.p41 (hM : MK h) : jP h 476 41 = 498 := hM.2.2.2.2.2.2.2.2.2.2.2.2.2.2.2.2.2.2.2.2.2.2.1
theorem MK.p42 (hM : MK h) : jP h 476 42 = 499 := hM.2.2.2.2.2.2.2.2.2.2.2.2.2.2.2.2.2.2.2.2.2.2.2.1
theorem MK.p43 (hM : MK h) : jP h 476 43 = 500 := hM.2.2.2.2.2.2.2.2.2.2.2.2.2.2.2.2.2.2.2.2.2.2.2.2.1
theorem MK.p44 (hM : MK h) : jP h 476 44 = 501 := hM.2.2.2.2.2.2.2.2.2.2.2.2.2.2.2.2.2.2.2.2.2.2.2.2.2.1
theorem MK.p46 (hM : MK h) : jP h 476 46 = 502 := hM.2.2.2.2.2.2.2.2.2.2.2.2.2.2.2.2.2.2.2.2.2.2.2.2.2.2.1
theorem MK.p48 (hM : MK h) : jP h 476 48 = 503 := hM.2.2.2.2.2.2.2.2.2.2.2.2.2.2.2.2.2.2.2.2.2.2.2.2.2.2.2.1
theorem MK.s477 (hM : MK h) : jS h 477 = (16, 72) := hM.2.2.2.2.2.2.2.2.2.2.2.2.2.2.2.2.2.2.2.2.2.2.2.2.2.2.2.2.1
theorem MK.s478 (hM : MK h) : jS h 478 = (16, 6) := hM.2.2.2.2.2.2.2.2.2.2.2.2.2.2.2.2.2.2.2.2.2.2.2.2.2.2.2.2.2.1
theorem MK.s479 (hM : MK h) : jS h 479 = (16, 6) := hM.2.2.2.2.2.2.2.2.2.2.2.2.2.2.2.2.2.2.2.2.2.2.2.2.2.2.2.2.2.2.1
theorem MK.s480 (hM : MK h) : jS h 480 = (16, 160) := hM.2.2.2.2.2.2.2.2.2.2.2.2.2.2.2.2.2.2.2.2.2.2.2.2.2.2.2.2.2.2.2.1
theorem MK.s481 (hM : MK h) : jS h 481 = (16, 4) := hM.2.2.2.2.2.2.2.2.2.2.2.2.2.2.2.2.2.2.2.2.2.2.2.2.2.2.2.2.2.2.2.2.1
theorem MK.s482 (hM : MK h) : jS h 482 = (16, 209) := hM.2.2.2.2.2.2.2.2.2.2.2.2.2.2.2.2.2.2.2.2.2.2.2.2.2.2.2.2.2.2.2.2.2.1
theorem MK.s483 (hM : MK h) : jS h 483 = (16, 1254) := hM.2.2.2.2.2.2.2.2.2.2.2.2.2.2.2.2.2.2.2.2.2.2.2.2.2.2.2.2.2.2.2.2.2.2.1
theorem MK.s484 (hM : MK h) : jS h 484 = (16, 418) := hM.2.2.2.2.2.2.2.2.2.2.2.2.2.2.2.2.2.2.2.2.2.2.2.2.2.2.2.2.2.2.2.2.2.2.2.1
theorem MK.s485 (hM : MK h) : jS h 485 = (17, 2) := hM.2.2.2.2.2.2.2.2.2.2.2.2.2.2.2.2.2.2.2.2.2.2.2.2.2.2.2.2.2.2.2.2.2.2.2.2.1
theorem MK.s486 (hM : MK h) : jS h 486 = (16, 160) := hM.2.2.2.2.2.2.2.2.2.2.2.2.2.2.2.2.2.2.2.2.2.2.2.2.2.2.2.2.2.2.2.2.2.2.2.2.2.1
theorem MK.s487 (hM : MK h) : jS h 487 = (16, 72) := hM.2.2.2.2.2.2.2.2.2.2.2.2.2.2.2.2.2.2.2.2.2.2.2.2.2.2.2.2.2.2.2.2.2.2.2.2.2.2.1
theorem MK.s488 (hM : MK h) : jS h 488 = (16, 6) := hM.2.2.2.2.2.2.2.2.2.2.2.2.2.2.2.2.2.2.2.2.2.2.2.2.2.2.2.2.2.2.2.2.2.2.2.2.2.2.2.1
theorem MK.s489 (hM : MK h) : jS h 489 = (16, 6) := hM.2.2.2.2.2.2.2.2.2.2.2.2.2.2.2.2.2.2.2.2.2.2.2.2.2.2.2.2.2.2.2.2.2.2.2.2.2.2.2.2.1
theorem MK.s490 (hM : MK h) : jS h 490 = (16, 160) := hM.2.2.2.2.2.2.2.2.2.2.2.2.2.2.2.2.2.2.2.2.2.2.2.2.2.2.2.2.2.2.2.2.2.2.2.2.2.2.2.2.2.1
theorem MK.s491 (hM : MK h) : jS h 491 = (16, 4) := hM.2.2.2.2.2.2.2.2.2.2.2.2.2.2.2.2.2.2.2.2.2.2.2.2.2.2.2.2.2.2.2.2.2.2.2.2.2.2.2.2.2.2.1
theorem MK.s492 (hM : MK h) : jS h 492 = (16, 16) := hM.2.2.2.2.2.2.2.2.2.2.2.2.2.2.2.2.2.2.2.2.2.2.2.2.2.2.2.2.2.2.2.2.2.2.2.2.2.2.2.2.2.2.2.1
theorem MK.s493 (hM : MK h) : jS h 493 = (16, 12) := hM.2.2.2.2.2.2.2.2.2.2.2.2.2.2.2.2.2.2.2.2.2.2.2.2.2.2.2.2.2.2.2.2.2.2.2.2.2.2.2.2.2.2.2.2.1
theorem MK.s494 (hM : MK h) : jS h 494 = (16, 8) := hM.2.2.2.2.2.2.2.2.2.2.2.2.2.2.2.2.2.2.2.2.2.2.2.2.2.2.2.2.2.2.2.2.2.2.2.2.2.2.2.2.2.2.2.2.2.1
theorem MK.s495 (hM : MK h) : jS h 495 = (16, 6) := hM.2.2.2.2.2.2.2.2.2.2.2.2.2.2.2.2.2.2.2.2.2.2.2.2.2.2.2.2.2.2.2.2.2.2.2.2.2.2.2.2.2.2.2.2.2.2.1
theorem MK.s496 (hM : MK h) : jS h 496 = (17, 1002) := hM.2.2.2.2.2.2.2.2.2.2.2.2.2.2.2.2.2.2.2.2.2.2.2.2.2.2.2.2.2.2.2.2.2.2.2.2.2.2.2.2.2.2.2.2.2.2.2.1
theorem MK.s497 (hM : MK h) : jS h 497 = (16, 1000) := hM.2.2.2.2.2.2.2.2.2.2.2.2.2.2.2.2.2.2.2.2.2.2.2.2.2.2.2.2.2.2.2.2.2.2.2.2.2.2.2.2.2.2.2.2.2.2.2.2.1
theorem MK.s498 (hM : MK h) : jS h 498 = (16, 12) := hM.2.2.2.2.2.2.2.2.2.2.2.2.2.2.2.2.2.2.2.2.2.2.2.2.2.2.2.2.2.2.2.2.2.2.2.2.2.2.2.2.2.2.2.2.2.2.2.2.2.1
theorem MK.s499 (hM : MK h) : jS h 499 = (17, 1000) := hM.2.2.2.2.2.2.2.2.2.2.2.2.2.2.2.2.2.2.2.2.2.2.2.2.2.2.2.2.2.2.2.2.2.2.2.2.2.2.2.2.2.2.2.2.2.2.2.2.2.2.1
theorem MK.s500 (hM : MK h) : jS h 500 = (16, 48) := hM.2.2.2.2.2.2.2.2.2.2.2.2.2.2.2.2.2.2.2.2.2.2.2.2.2.2.2.2.2.2.2.2.2.2.2.2.2.2.2.2.2.2.2.2.2.2.2.2.2.2.2.1
theorem MK.s501 (hM : MK h) : jS h 501 = (16, 48) := hM.2.2.2.2.2.2.2.2.2.2.2.2.2.2.2.2.2.2.2.2.2.2.2.2.2.2.2.2.2.2.2.2.2.2.2.2.2.2.2.2.2.2.2.2.2.2.2.2.2.2.2.2.1
theorem MK.s502 (hM : MK h) : jS h 502 = (16, 8) := hM.2.2.2.2.2.2.2.2.2.2.2.2.2.2.2.2.2.2.2.2.2.2.2.2.2.2.2.2.2.2.2.2.2.2.2.2.2.2.2.2.2.2.2.2.2.2.2.2.2.2.2.2.2.1
theorem MK.s503 (hM : MK h) : jS h 503 = (16, 12) := hM.2.2.2.2.2.2.2.2.2.2.2.2.2.2.2.2.2.2.2.2.2.2.2.2.2.2.2.2.2.2.2.2.2.2.2.2.2.2.2.2.2.2.2.2.2.2.2.2.2.2.2.2.2.2
theorem MK.fr (hM : MK h) (h1 : jP g = jP h) (h2 : jS g = jS h) : MK g := by
  unfold MK
  rw [h1, h2]
  exact hM
end KP
section KQ
variable {h g : jH} {node wi sn code cm w : Nat → Int} {n nw nd ns : Nat}
theorem eX9_expressed {d k m q0 : Nat} {c nv : Nat → Int} (hM : MK h) (hq : q0 < 4) (ec : jX h 480 = c) (hl : jX h 481 q0 = (m : Int)) (hW : CW c (40 * q0) m k) (hk : k ≤ 12) (hv : ∀ i, i < k → jX h 493 i = nv i) (hj : ∀ i, i < k → jv (nv i)) :
    Ex MX9_expressed (d + 1) [.inr 476, .inl (q0 : Int)] h 0 0 (fun v g => v = some (.inl (sk c (40 * q0) nv m 0)) ∧ FX (fun b => b = 494) h g) := by
  refine Ex_of_V tX9_expressed (Nat.le_of_ble_eq_true rfl) ?_
  apply bX9_expressed_0
  obtain ⟨w1, w2, w3⟩ := id hW
  have key : ∀ (t j : Nat) (g : jH) (u4 u5 u6 : Option jA), j + t = m → FX (fun b => b = 494) h g → (∀ i, i < hg c (40 * q0) j → jX g 494 i = sk c (40 * q0) nv j i) →
      V MX9_expressed (d + 1) 4 [some (.inr 476), some (.inl (q0 : Int)), some (.inl ((hg c (40 * q0) j : Nat) : Int)), some (.inl (j : Int)), u4, u5, u6] [] g 0 0 (fun v g => v = some (.inl (sk c (40 * q0) nv m 0)) ∧ FX (fun b => b = 494) h g) := by
    intro t
    induction t with
    | zero =>
      intro j g u4 u5 u6 hjm fx hs
      obtain rfl : j = m := by omega
      have hM2 : MK g := hM.fr fx.2.1 fx.2.2.2.1
      have e20 := fx.2.2.2.2.2 481 (by omega)
      have hlen : jX g (jP g 476 8) ((((q0 : Nat) : Int)).toNat) = (j : Int) := by rw [hM2.p8, e20, Int.toNat_natCast]; exact hl
      have hng : ∀ P : Prop, ¬ (jX g (jP g 476 8) ((((q0 : Nat) : Int)).toNat) ≤ (j : Int)) → P := fun P q => absurd (by rw [hlen]; exact Int.le_refl _) q
      apply bX9_expressed_4
      case q1 =>
        intro _
        refine ⟨?_, fx⟩
        rw [hM2.p37, hs 0 (by omega)]
      all_goals first
        | exact hM2.x
        | (rw [hM2.p8, hM2.s481]; done)
        | (rw [hM2.p37, hM2.s494]; done)
        | (rw [hM2.p7, hM2.s480]; done)
        | (rw [hM2.p36, hM2.s493]; done)
        | (intros; rw [hM2.p37, hM2.s494]; decide)
        | (rw [hM2.p8, hM2.s481]; show (q0 : Int) < 4; omega)
        | omega
        | (intro q; exact hng _ q)
    | succ t ih =>
      intro j g u4 u5 u6 hjm fx hs
      have hM2 : MK g := hM.fr fx.2.1 fx.2.2.2.1
      obtain ⟨x1, x2⟩ := w3 j (by omega)
      have e8 := fx.2.2.2.2.2 481 (by omega)
      have e7 := fx.2.2.2.2.2 480 (by omega)
      have ea := fx.2.2.2.2.2 493 (by omega)
      have hlen : jX g (jP g 476 8) ((((q0 : Nat) : Int)).toNat) = (m : Int) := by rw [hM2.p8, e8, Int.toNat_natCast]; exact hl
      have hop : jX g (jP g 476 7) ((40 * (q0 : Int) + 2 * (j : Int)).toNat) = c (40 * q0 + 2 * j) := by rw [hM2.p7, e7, ec, show (40 * (q0 : Int) + 2 * (j : Int)).toNat = 40 * q0 + 2 * j by omega]
      have hit : jX g (jP g 476 7) ((40 * (q0 : Int) + 2 * (j : Int) + 1).toNat) = c (40 * q0 + 2 * j + 1) := by rw [hM2.p7, e7, ec, show (40 * (q0 : Int) + 2 * (j : Int) + 1).toNat = 40 * q0 + 2 * j + 1 by omega]
      have hst : (jS g (jP g 476 37)) = (16, 8) := by rw [hM2.p37, hM2.s494]
      have h6 : hg c (40 * q0) j ≤ 6 := by
        cases j with
        | zero => exact Nat.zero_le _
        | succ j => exact (w3 j (by omega)).1
      have hsj := sk_v hj j (fun i hi => w3 i (by omega))
      have tail : ∀ (g2 : jH) (v4 v5 : Int) (v6 : Option jA), FX (fun b => b = 494) h g2 → (∀ i, i < hg c (40 * q0) (j + 1) → jX g2 494 i = sk c (40 * q0) nv (j + 1) i) → ∀ z : Int, z = ((hg c (40 * q0) (j + 1) : Nat) : Int) →
          V MX9_expressed (d + 1) 160 [some (.inr 476), some (.inl (q0 : Int)), some (.inl z), some (.inl (j : Int)), some (.inl v4), some (.inl v5), v6] [] g2 0 0 (fun v g => v = some (.inl (sk c (40 * q0) nv m 0)) ∧ FX (fun b => b = 494) h g) := by
        intro g2 v4 v5 v6 fx2 hs2 z hz
        apply bX9_expressed_160
        case r1 => exact ⟨by omega, by omega⟩
        case k1 =>
          rw [hz, show (j : Int) + 1 = ((j + 1 : Nat) : Int) by omega]
          exact ih (j + 1) g2 _ _ _ (by omega) fx2 hs2
      have push : ∀ (v v4 v5 : Int) (v6 : Option jA), hg c (40 * q0) (j + 1) = hg c (40 * q0) j + 1 → (∀ i, sk c (40 * q0) nv (j + 1) i = if i = hg c (40 * q0) j then v else sk c (40 * q0) nv j i) →
          V MX9_expressed (d + 1) 156 [some (.inr 476), some (.inl (q0 : Int)), some (.inl ((hg c (40 * q0) j : Nat) : Int)), some (.inl (j : Int)), some (.inl v4), some (.inl v5), v6] [.inl v, .inl ((hg c (40 * q0) j : Nat) : Int), .inr (jP g 476 37)] g 0 0 (fun v g => v = some (.inl (sk c (40 * q0) nv m 0)) ∧ FX (fun b => b = 494) h g) := by
        intro v v4 v5 v6 hh hv2
        apply bX9_expressed_156
        case s1 => rw [hst]
        case s2 => omega
        case s3 => rw [hst]; show ((hg c (40 * q0) j : Nat) : Int) < 8; omega
        case r1 => exact ⟨by omega, by omega⟩
        case k1 =>
          rw [hM2.p37, Int.toNat_natCast]
          refine tail _ _ _ _ (fx.trans (FX.sX rfl)) (fun i hi => ?_) _ (by omega)
          rw [jX_sX, hv2]
          by_cases q : i = hg c (40 * q0) j
          · rw [if_pos ⟨rfl, q⟩, if_pos q]
          · rw [if_neg (fun z => q z.2), if_neg q]; exact hs i (by omega)
      have turn : ∀ (v v4 v5 : Int) (v6 : Int), c (40 * q0 + 2 * j) = 2 → 1 ≤ hg c (40 * q0) j → v = jneg (jX g 494 (hg c (40 * q0) j - 1)) →
          V MX9_expressed (d + 1) 91 [some (.inr 476), some (.inl (q0 : Int)), some (.inl ((hg c (40 * q0) j : Nat) : Int)), some (.inl (j : Int)), some (.inl v4), some (.inl v5), some (.inl v6)] [.inl v, .inl (((hg c (40 * q0) j : Nat) : Int) - 1), .inr (jP g 476 37)] g 0 0 (fun v g => v = some (.inl (sk c (40 * q0) nv m 0)) ∧ FX (fun b => b = 494) h g) := by
        intro v v4 v5 v6 e f1 hv2
        have hh : hg c (40 * q0) (j + 1) = hg c (40 * q0) j := hg_n e
        apply bX9_expressed_91
        case s1 => rw [hst]
        case s2 => omega
        case s3 => rw [hst]; refine Int.lt_of_le_of_lt (b := 5) ?_ (by decide); omega
        case k1 =>
          rw [hM2.p37, show ((hg c (40 * q0) j : Nat) : Int) - 1 = ((hg c (40 * q0) j - 1 : Nat) : Int) by omega, Int.toNat_natCast]
          refine tail _ _ _ _ (fx.trans (FX.sX rfl)) (fun i hi => ?_) _ (by omega)
          rw [jX_sX]
          conv => rhs; unfold sk
          rw [if_pos e]
          by_cases q : i + 1 = hg c (40 * q0) j
          · rw [if_pos ⟨rfl, by omega⟩, if_pos q, hv2, hs _ (by omega), show hg c (40 * q0) j - 1 = i by omega]
          · rw [if_neg (by omega), if_neg q]; exact hs i (by omega)
      have hng : ∀ P : Prop, (jX g (jP g 476 8) ((((q0 : Nat) : Int)).toNat) ≤ (j : Int)) → P := fun P q => absurd (by rw [hlen]; omega) (Int.not_lt.mpr q)
      apply bX9_expressed_4
      case q1 => intro q; exact hng _ q
      case k1 =>
        rw [hop, hit]
        intro _ q1 q2 q3
        have hh : hg c (40 * q0) (j + 1) = hg c (40 * q0) j + 1 := hg_p q1 q2
        obtain ⟨f1, f2⟩ : 0 ≤ c (40 * q0 + 2 * j + 1) ∧ c (40 * q0 + 2 * j + 1) < k := by omega
        refine push _ _ _ _ hh (fun i => ?_)
        conv => lhs; unfold sk
        rw [if_neg q1, if_neg q2, if_neg q3, hM2.p36, ea, hv (c (40 * q0 + 2 * j + 1)).toNat (by omega)]
      case k2 =>
        rw [hop, hit]
        intro _ q1 q2 q3
        have hh : hg c (40 * q0) (j + 1) = hg c (40 * q0) j + 1 := hg_p q1 q2
        refine push _ _ _ _ hh (fun i => ?_)
        conv => lhs; unfold sk
        rw [if_neg q1, if_neg q2, if_pos q3]
      case k3 =>
        rw [hop, hit]
        intro _ q1 e
        have hh : hg c (40 * q0) (j + 1) = hg c (40 * q0) j - 1 := hg_o e
        have f1 : 2 ≤ hg c (40 * q0) j := by omega
        have n0 : (((hg c (40 * q0) j : Nat) : Int) + (-1) - 1).toNat = hg c (40 * q0) j - 2 := by omega
        have n1 : (((hg c (40 * q0) j : Nat) : Int) + (-1)).toNat = hg c (40 * q0) j - 1 := by omega
        rw [hM2.p37, n0, n1, hs _ (by omega), hs _ (by omega)]
        refine tail _ _ _ _ (fx.trans (FX.sX rfl)) (fun i hi => ?_) _ (by omega)
        rw [jX_sX]
        conv => rhs; unfold sk
        rw [if_neg q1, if_pos e]
        by_cases q : i + 2 = hg c (40 * q0) j
        · rw [if_pos ⟨rfl, by omega⟩, if_pos q, show hg c (40 * q0) j - 2 = i by omega, show hg c (40 * q0) j - 1 = i + 1 by omega]
        · rw [if_neg (by omega), if_neg q]; exact hs i (by omega)
      case k4 =>
        rw [hop, hit]
        intro _ e q1 q2
        rw [hM2.p37, show ((hg c (40 * q0) j : Nat) : Int) - 1 = ((hg c (40 * q0) j - 1 : Nat) : Int) by omega, Int.toNat_natCast] at q1 q2
        have h9 := turn 0 (c (40 * q0 + 2 * j)) (c (40 * q0 + 2 * j + 1)) (jX g (jP g 476 37) ((((hg c (40 * q0) j : Nat) : Int) - 1).toNat)) e (by omega) (by unfold jneg; rw [if_neg q1, if_neg q2])
        exact h9
      case k5 =>
        rw [hop, hit]
        intro _ e q1 q2
        rw [hM2.p37, show ((hg c (40 * q0) j : Nat) : Int) - 1 = ((hg c (40 * q0) j - 1 : Nat) : Int) by omega, Int.toNat_natCast] at q1 q2
        have h9 := turn 1 (c (40 * q0 + 2 * j)) (c (40 * q0 + 2 * j + 1)) (jX g (jP g 476 37) ((((hg c (40 * q0) j : Nat) : Int) - 1).toNat)) e (by omega) (by unfold jneg; rw [if_neg q1, if_pos q2])
        exact h9
      case k6 =>
        rw [hop, hit]
        intro _ e q1
        rw [hM2.p37, show ((hg c (40 * q0) j : Nat) : Int) - 1 = ((hg c (40 * q0) j - 1 : Nat) : Int) by omega, Int.toNat_natCast] at q1
        have h9 := turn (-7) (c (40 * q0 + 2 * j)) (c (40 * q0 + 2 * j + 1)) (jX g (jP g 476 37) ((((hg c (40 * q0) j : Nat) : Int) - 1).toNat)) e (by omega) (by unfold jneg; rw [if_pos q1])
        exact h9
      all_goals (try rw [hop])
      all_goals (try rw [hit])
      all_goals first
        | exact hM2.x
        | (rw [hM2.p8, hM2.s481]; done)
        | (rw [hst]; done)
        | (rw [hM2.p7, hM2.s480]; done)
        | (rw [hM2.p36, hM2.s493]; done)
        | (intro q; exact hng _ q)
        | (rw [hM2.p8, hM2.s481]; show (q0 : Int) < 4; omega)
        | (intros; exact ⟨by omega, by omega⟩)
        | (intros; omega)
        | (intros; rw [hM2.p7, hM2.s480]; refine Int.lt_of_le_of_lt (b := 159) ?_ (by decide); omega)
        | (intros; rw [hst]; refine Int.lt_of_le_of_lt (b := 7) ?_ (by decide); omega)
        | (intros; rw [hM2.p36, hM2.s493]; refine Int.lt_of_le_of_lt (b := 11) ?_ (by decide); omega)
        | (intro _ q1 e; rw [hM2.p37, show (((hg c (40 * q0) j : Nat) : Int) + (-1) - 1).toNat = hg c (40 * q0) j - 2 by omega, hs _ (by omega)]; have j0 := hsj (hg c (40 * q0) j - 2) (by omega); unfold jv at j0; omega)
        | (intro _ q1 e; rw [hM2.p37, show (((hg c (40 * q0) j : Nat) : Int) + (-1)).toNat = hg c (40 * q0) j - 1 by omega, hs _ (by omega)]; have j0 := hsj (hg c (40 * q0) j - 1) (by omega); unfold jv at j0; omega)
  have h9 := key m 0 h none none none (by omega) FX.rf (fun i hi => absurd hi (Nat.not_lt_zero _))
  exact h9
end KQ
