/-! ===== both sides: back ===== -/
section LR
variable {h g : jH} {node wi sn code cm s past s' past' : Nat → Int} {n nw nd ns u u' D : Nat} {K K' : Int}
theorem pair_back {d d' : Nat} {x : Int} (hI : IE h K) : Ex MX8_back (d + 5) [.inr 2, .inl x] h 0 0 (PR MX9_back (d' + 1) [.inr 476, .inl x] K) := by
  obtain ⟨D, node, n, nw, nd, wi, sn, ns, code, cm, s, past, u, hI⟩ := hI
  have hx := hI.x
  have hM := hI.mk
  obtain ⟨w1, w2, w3, w4, w5, w6, w7, w8⟩ := hx.i6
  obtain ⟨ka, kb⟩ : IK h node n K 0 398 ∧ IK h node n K 1 437 := ⟨hI.2.2.2.2.1, hI.2.2.2.2.2.1⟩
  obtain ⟨hpr, hep, heu⟩ := hI.2.2.2.1
  have img : ∀ c : Nat, c < 2 → IK h node n K c (398 + 39 * c) ∧ SK h (398 + 39 * c) ∧ RB h (398 + 39 * c) ∧ jY h 325 c = 398 + 39 * c := fun c hc => by
    have : c = 0 ∨ c = 1 := by omega
    rcases this with rfl | rfl
    · exact ⟨ka, w1, w3, w5⟩
    · exact ⟨kb, w2, w4, w6⟩
  have bad : ¬ (0 ≤ x ∧ x ≤ 1) → PR MX9_back (d' + 1) [.inr 476, .inl x] K (some (.inl (-1))) h := by
    intro q
    refine pr_same hI (Ex_of_V tX9_back (Nat.le_of_ble_eq_true rfl) ?_)
    apply bX9_back_0
    case q2 => intro _; exact ⟨rfl, rfl⟩
    all_goals first
      | exact hM.x
      | (rw [hM.p13, hM.s485]; done)
      | (intro z; exact absurd z q)
  refine Ex_of_V tX8_back (Nat.le_of_ble_eq_true rfl) ?_
  apply bX8_back_0
  case q1 => intro q; exact bad (by omega)
  case q3 => intro _ q; exact bad (by omega)
  case q2 =>
    intro q q2 q3
    obtain ⟨c, rfl, hc⟩ : ∃ c : Nat, x = (c : Int) ∧ c < 2 := ⟨x.toNat, by omega, by omega⟩
    rw [hx.p7, Int.toNat_natCast, (img c hc).1.1] at q3
    refine pr_same hI (Ex_of_V tX9_back (Nat.le_of_ble_eq_true rfl) ?_)
    apply bX9_back_0
    case q1 => intro _ _; exact ⟨rfl, rfl⟩
    case q2 => intro z; omega
    case k1 => intro _ z; rw [hM.p13, Int.toNat_natCast] at z; exact absurd q3 z
    all_goals first
      | exact hM.x
      | (rw [hM.p13, hM.s485]; done)
      | (intros; omega)
      | (intros; rw [hM.p13, hM.s485]; show (c : Int) < 2; omega)
  case e1 =>
    intro q q2 q3
    obtain ⟨c, rfl, hc⟩ : ∃ c : Nat, x = (c : Int) ∧ c < 2 := ⟨x.toNat, by omega, by omega⟩
    rw [hx.p7, Int.toNat_natCast] at q3
    obtain ⟨ik, sk, rb, ey⟩ := img c hc
    have q4 : jX h 326 c = 1 := ik.2.1.resolve_left q3
    obtain ⟨irep, isi⟩ := ik.2.2 q4
    rw [hx.p4, hx.p6, Int.toNat_natCast, ey]
    refine Ex.mono (eX6_copyFrom hx.k50 sk (by omega) hx.b50 rb isi hI.dg.wn irep) ?_
    rintro v g ⟨rfl, fr, br, rep⟩
    have p5 : jP g 2 5 = 89 := by rw [fr.1]; exact hx.p5
    have p4 : jP g 2 4 = 50 := by rw [fr.1]; exact hx.p4
    apply bX8_back_36
    case s1 => rw [fr.2.1]; exact hx.s2
    case s2 => rw [p5, fr.2.1]; exact hx.p89.1
    case s3 => rw [p4, fr.2.1]; exact hx.k50.1
    case q1 =>
      rw [p4, p5, jI_sI, if_neg (by omega), rep.1]
      have fr2 : Fr 89 90 g (jsI g 89 0 0) := Fr.sI (by omega) (by omega)
      have f1 : FP uP h (jsI g 89 0 0) := (fr.fp (fun a h1 h2 => by unfold uP; omega)).trans (fr2.fp (fun a h1 h2 => by unfold uP; omega))
      have hM1 : MK (jsI g 89 0 0) := hM.fr f1.1 f1.2.1
      have e484 : jX (jsI g 89 0 0) 484 = jX h 484 := (f1.2.2.2 484 (by unfold uP; omega)).2.1
      have e485 : jX (jsI g 89 0 0) 485 = jX h 485 := (f1.2.2.2 485 (by unfold uP; omega)).2.1
      have e482 : jX (jsI g 89 0 0) 482 = s := (fr.2.2.2 482 (by omega)).2.1.trans hI.es
      have e483 : jX (jsI g 89 0 0) 483 = past := (fr.2.2.2 483 (by omega)).2.1.trans hep
      have i476 : jI (jsI g 89 0 0) 476 = jI h 476 := ((fr2.2.2.2 476 (by omega)).1).trans (fr.2.2.2 476 (by omega)).1
      have hO1 : PO (jsI g 89 0 0) := by
        obtain ⟨o1, o2, o3, o4, o5, o6⟩ := hx.p89
        have e90 : jY (jsI g 89 0 0) 90 = jY h 90 := (fr.2.2.2 90 (by omega)).2.2
        exact ⟨by rw [f1.2.1]; exact o1, by rw [f1.1]; exact o2, by rw [f1.2.1]; exact o3, by rw [e90]; exact o4, by rw [e90]; exact o5, fun j hj => ⟨(o6 j hj).1.fr f1.1 f1.2.1, ((o6 j hj).2.fr fr (by omega)).fr fr2 (by omega)⟩⟩
      have rep1 := rep.fr br isi.2.2.2.2.2.2.1 fr2 (by omega)
      have br1 := br.fr fr2 (by omega)
      refine ⟨_, rfl, hM1.x, Ex_of_V tX9_back (Nat.le_of_ble_eq_true rfl) ?_⟩
      apply bX9_back_0
      case q1 => intro _ z; rw [hM1.p13, Int.toNat_natCast, e485, ← ik.1] at z; exact absurd z q3
      case q2 => intro z; omega
      case k1 =>
        intro _ _
        have key : ∀ (m i : Nat), i + m = 209 → V MX9_back (d' + 1) 25 [some (.inr 476), some (.inl (c : Int)), some (.inl (i : Int))] [] (jfil (jsI g 89 0 0) 482 0 i (fun k => jX h 484 (209 * c + k))) 0 0 (fun r g2 => r = some (.inl (jX h 484 (209 * c + 0))) ∧ IE g2 (K + 1)) := by
          intro m
          induction m with
          | zero =>
            intro i hi
            obtain rfl : i = 209 := by omega
            have hM2 : MK (jfil (jsI g 89 0 0) 482 0 209 (fun k => jX h 484 (209 * c + k))) := hM1.fr rfl rfl
            have f3 : FP (fun a => a = 482 ∨ a = 476) (jsI g 89 0 0) (jsI (jfil (jsI g 89 0 0) 482 0 209 (fun k => jX h 484 (209 * c + k))) 476 11 0) := (FP.fil (Or.inl rfl)).trans (FP.sI (Or.inr rfl))
            apply bX9_back_25
            case q1 =>
              intro _
              rw [hM2.p9]
              refine ⟨by rw [jX_fil, if_pos ⟨rfl, by omega, by omega⟩], D, node, n, nw, nd, wi, sn, ns, code, cm, fun k => if k < 209 then jX h 484 (209 * c + k) else s k, past, 0, ?_⟩
              have he : ∀ k, k < 209 → (fun k => if k < 209 then jX h 484 (209 * c + k) else s k) k = (fun k => jX h 484 (209 * c + k)) k := fun k hk => if_pos hk
              refine hI.upd (K' := K + 1) (f1.trans (f3.wide (fun a ha => by unfold uP; omega))) (fun j hj => ?_) (hO1.fp f3 (fun a h1 h2 => by omega)) (br1.fp f3 (by omega)) ((rep1.row hI.dg.wn isi he).fp br1 (Int.le_trans (Int.le_of_eq (he 3 (by omega))) isi.2.2.2.2.2.2.1) f3 (fun a h1 h2 => by omega)) ?_ ((isi.row he).grow (by omega)) ?_ ?_ (by rw [jI_sI, if_pos ⟨rfl, rfl⟩]; rfl) (by omega)
              · rw [jI_sI, if_neg (fun z => hj z.2), jI_fil, i476]
              · funext k
                rw [jX_sI, jX_fil]
                by_cases z : k < 209
                · rw [if_pos ⟨rfl, by omega, z⟩, if_pos z]
                · rw [if_neg (by omega), if_neg z, e482]
              · refine ⟨?_, by omega, fun i hi => absurd hi (Nat.not_lt_zero _)⟩
                rw [jI_sI, if_neg (by omega), jI_fil, jI_sI, if_pos ⟨rfl, rfl⟩]; rfl
              · funext k
                rw [jX_sI, jX_fil, if_neg (by omega), e483]
            all_goals first
              | exact hM2.x
              | (rw [hM2.p9, hM2.s482]; done)
              | (rw [hM2.p12, hM2.s484]; done)
              | (intros; rw [hM2.p9, hM2.s482]; decide)
              | (intro z; exact absurd (by decide) z)
          | succ m ih =>
            intro i hi
            have hM2 : MK (jfil (jsI g 89 0 0) 482 0 i (fun k => jX h 484 (209 * c + k))) := hM1.fr rfl rfl
            apply bX9_back_25
            case q1 => intro z; omega
            case k1 =>
              intro _
              rw [hM2.p9, hM2.p12, Int.toNat_natCast, show (209 * (c : Int) + (i : Int)).toNat = 209 * c + i by omega, show (i : Int) + 1 = ((i + 1 : Nat) : Int) by omega]
              have e9 : jX (jfil (jsI g 89 0 0) 482 0 i (fun k => jX h 484 (209 * c + k))) 484 (209 * c + i) = jX h 484 (209 * c + i) := by rw [jX_fil, if_neg (by omega), e484]
              rw [e9, jfil_s rfl (by omega)]
              exact ih (i + 1) (by omega)
            all_goals first
              | exact hM2.x
              | (rw [hM2.p9, hM2.s482]; done)
              | (rw [hM2.p12, hM2.s484]; done)
              | (intros; exact ⟨by omega, by omega⟩)
              | (intros; omega)
              | (intros; rw [hM2.p9, hM2.s482]; refine Int.lt_of_le_of_lt (b := 208) ?_ (by decide); omega)
              | (intros; rw [hM2.p12, hM2.s484]; refine Int.lt_of_le_of_lt (b := 417) ?_ (by decide); omega)
        have h9 := key 209 0 (by omega)
        rw [jfil_0] at h9
        exact h9
      all_goals first
        | exact hM1.x
        | (rw [hM1.p13, hM1.s485]; done)
        | (intros; omega)
        | (intros; rw [hM1.p13, hM1.s485]; show (c : Int) < 2; omega)
  all_goals first
    | exact hx.s2
    | exact hI.rk
    | (rw [hx.p7, w8]; done)
    | (rw [hx.p6, w7]; done)
    | (intros; omega)
    | (intros; rw [hx.p7, w8]; refine Int.lt_of_le_of_lt (b := 1) ?_ (by decide); omega)
    | (intros; rw [hx.p6, w7]; refine Int.lt_of_le_of_lt (b := 1) ?_ (by decide); omega)
end LR
