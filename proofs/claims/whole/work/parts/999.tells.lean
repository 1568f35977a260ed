/-! ===== both sides: tells ===== -/
section NG
variable {h g h0 g1 gE : jH} {b : Nat → Int} {c : Nat} {node wi sn code cm node' wi' sn' code' cm' s s' past : Nat → Int} {n nw nd ns D D' d d' p q f r u k o : Nat} {op x K : Int} {R : Option jA → jH → Prop}
/-- the model's end of tells -/
theorem tells_end {it : Nat} (hi : it ≤ 160) (hT : TXM h b c) (hs : tso b c q = 4) (hI : MI h g b c q node n nw nd wi sn ns code cm op) (hn : n ≤ 12) (hns : ns ≤ 6) (hnd : nd ≤ 4)
    (k : ∀ g', MF TLP TLF h g' → jI g' 476 1 = (n : Int) → jI g' 476 2 = (nw : Int) → jI g' 476 3 = (nd : Int) → jI g' 476 6 = (ns : Int) → NCG node (jX g' 477) n nd code (jX g' 480) cm (jX g' 481) → (∀ k, k < ns → jX g' 478 k = wi k ∧ jX g' 479 k = sn k) → (∀ k, k < 209 → jX g' 482 k = s00 k) → jI g' 476 11 = 0 → jI g' 476 49 = 0 → jI g' 476 15 = 0 → jX g' 485 0 = 0 → jX g' 485 1 = 0 → R (some (.inl (it : Int))) g') :
    V MX9_tells (d + 9) 48 [some (.inr 476), some (.inl (it : Int))] [] g 0 0 R := by
  have hM := (hI.txm hT).1
  obtain ⟨m1, m2, m3, m4, m5, m6, m7, m8, m9, m10⟩ := hI
  apply bX9_tells_48
  case e2 =>
    intro _ _ _
    refine Ex.mono (eX9_takesOver hM) ?_
    rintro r g2 ⟨rfl, f2, w1, w2, w3, w6, x1, x2, x3, x4⟩
    have hM2 := f2.mk hM
    apply bX9_tells_96
    case s1 => exact hM2.x
    case e1 =>
      refine Ex.mono (eX9_begins hM2) ?_
      rintro r g3 ⟨rfl, f3, b1, b2, b3, b4, b5⟩
      have hM3 := f3.mk hM2
      apply bX9_tells_100
      case s1 => exact hM3.x
      case q1 =>
        have ff : MF TLP TLF h (jsI g3 476 15 0) := (((m1.wide (fun a ha => by unfold PP at ha; unfold TLP; omega) (fun a ha => by unfold PFd at ha; unfold TLF; omega)).trans (f2.wide (fun a ha => by unfold TKP at ha; unfold TLP; omega) (fun a ha => by unfold TKF at ha; unfold TLF; omega))).trans (f3.wide (fun a ha => by unfold TLP; omega) (fun a ha => by unfold TLF; omega))).trans (MF.sI (by unfold TLF; omega))
        have eI : ∀ k, k ≠ 15 → k ≠ 11 → k ≠ 49 → jI (jsI g3 476 15 0) 476 k = jI g2 476 k := fun k y1 y2 y3 => by rw [jI_sI, if_neg (fun z => y1 z.2)]; exact f3.2.2.2.2.2.2 k (by omega)
        have eX : ∀ a, a < 482 → jX (jsI g3 476 15 0) a = jX g2 a := fun a ha => f3.2.2.2.2.1 a (by omega)
        refine k _ ff (by rw [eI 1 (by omega) (by omega) (by omega), w1]; exact m4.1) (by rw [eI 2 (by omega) (by omega) (by omega), w2]; exact m5) (by rw [eI 3 (by omega) (by omega) (by omega), w3]; exact m6) (by rw [eI 6 (by omega) (by omega) (by omega), w6]; exact m4.2.1) ?_ ?_ b1 ?_ ?_ (by rw [jI_sI, if_pos ⟨rfl, rfl⟩]) b4 b5
        · rw [eX 477 (by omega), eX 480 (by omega), eX 481 (by omega)]
          refine ⟨fun k hk => by rw [x1 k (by omega)]; exact m4.2.2.1 k hk, fun w hw j hj => ?_, fun k hk => by rw [x4 k (by omega)]; exact (m10 k hk).1⟩
          have := (m10 w hw).2
          rw [x3 _ (by omega)]
          exact m9 w hw j hj
        · rw [eX 478 (by omega), eX 479 (by omega)]
          intro k hk
          rw [(x2 k (by omega)).1, (x2 k (by omega)).2]
          exact m4.2.2.2 k hk
        · rw [jI_sI, if_neg (by omega)]; exact b2
        · rw [jI_sI, if_neg (by omega)]; exact b3
  all_goals first
    | exact hM.x
    | (intro z; exact absurd m3 z)
    | (intro _ z; exact absurd m3 z)
    | (intro _ z; rw [m2.2.2.2.1] at z; exact absurd hs z)
    | (intro _ _ z; exact absurd m3 z)
theorem pair_tells (hI : IE h K) : Ex MX8_tells (d + 13 + 12) [.inr 2] h 0 0 (PR MX9_tells (d' + 9) [.inr 476] K) := by
  obtain ⟨D, node, n, nw, nd, wi, sn, ns, code, cm, s, past, u, hI⟩ := hI
  have hx := hI.x
  have hM := hI.mk
  obtain ⟨c, c1, c2, c3, c4⟩ : IT h := hI.2.2.2.2.2.2.2
  obtain ⟨D', hD', hdd⟩ : ∃ D', ((D = 5 ∧ D' = 27) ∨ (D = 27 ∧ D' = 5)) ∧ jP h 2 1 = D ∧ jP h 2 2 = D' := by
    rcases hI.2.1.1 with z | z
    · exact ⟨27, Or.inl ⟨z.1, rfl⟩, by rw [z.1]; exact z.2.1, z.2.2⟩
    · exact ⟨5, Or.inr ⟨z.1, rfl⟩, by rw [z.1]; exact z.2.1, z.2.2⟩
  have hK0 : 0 ≤ K := by
    have := hI.2.2.1.2.2
    exact Int.le_trans this.2.2.2.2.2.2.2.1 this.2.2.2.2.2.2.2.2.1
  have hTC : TXC h (jX h 4) c := ⟨hx.t3.1, hx.t3.2.1, hx.t3.2.2, c1, ⟨c3, fun i hi => (c4 i hi).2⟩, fun i _ => rfl⟩
  have hTM : TXM h (jX h 4) c := ⟨hM, c2, ⟨c3, fun i hi => (c4 i hi).2⟩, fun i hi => (c4 i hi).1.symm⟩
  have hDD : D' = 5 ∨ D' = 27 := by omega
  have hKD : DK h D' := by rcases hDD with z | z <;> rw [z]; exact hx.d5; exact hx.d27
  have hYD : DY h D' := by rcases hDD with z | z <;> rw [z]; exact hx.y5; exact hx.y27
  have k49 : (jS h 49).1 = 5 ∧ jP h 49 0 = 3 := ⟨hx.2.1.2.2.2.1, hx.2.1.2.2.2.2.1⟩
  have hI1 := hI.p49 (D' := D')
  refine Ex_of_V tX8_tells (Nat.le_of_ble_eq_true rfl) ?_
  apply bX8_tells_0
  case s1 => exact hx.s2
  case s2 => rw [hx.p3]; exact k49.1
  case e1 =>
    rw [hx.p3, hdd.2]
    refine Ex.mono (eX5_read (h1 := h) k49 hTC hKD hYD hDD) ?_
    rintro r g hr
    have hx1 := hI1.x
    -- what stands in any case
    have base : ∀ g, IFr D' (jsP h 49 1 D') g → IV g D node n nw nd wi sn ns code cm s past u K ∧ jP g 2 1 = D ∧ jP g 2 2 = D' ∧ TXM g (jX h 4) c := by
      intro g f
      have hIg := hI1.dft hD' f
      refine ⟨hIg, by rw [f.1, jP_sP, if_neg (by omega)]; exact hdd.1, by rw [f.1, jP_sP, if_neg (by omega)]; exact hdd.2, hIg.mk, ?_, hTM.2.2.1, ?_⟩
      · rw [f.2.2.2.2.2.1 476 (by omega) (by omega) (by omega)]; exact c2
      · rw [f.2.2.2.2.1 486 (by omega)]; exact hTM.2.2.2
    rcases hr with ⟨it, q, n', nw', nd', ns', node', wi', sn', code', cm', op', rfl, hit, hC, hsq, f, lk⟩ | ⟨rfl, fa, f, ⟨hf, hfc⟩, lk⟩
    · obtain ⟨hIg, gd1, gd2, hTg⟩ := base g f
      have hxg := hIg.x
      apply bX8_tells_11
      case q1 => intro z; omega
      case r1 => intro z; omega
      case s1 => exact hxg.s2
      case s2 => rw [hxg.p4]; exact hxg.k50.1
      case s3 => rw [hxg.p0]; exact hxg.t3.1
      case e1 =>
        intro _
        rw [gd1, gd2, hxg.p4]
        generalize hg2 : jsP (jsP g 2 1 D') 2 2 D = g2
        have p2 : ∀ a, a ≠ 2 → jP g2 a = jP g a := fun a ha => funext fun k => by rw [← hg2, jP_sP, if_neg (fun z => ha z.1), jP_sP, if_neg (fun z => ha z.1)]
        have p22 : ∀ k, k ≠ 1 → k ≠ 2 → jP g2 2 k = jP g 2 k := fun k h1 h2 => by rw [← hg2, jP_sP, if_neg (fun z => h2 z.2), jP_sP, if_neg (fun z => h1 z.2)]
        have pq1 : jP g2 2 1 = D' := by rw [← hg2, jP_sP, if_neg (by omega), jP_sP, if_pos ⟨rfl, rfl⟩]
        have pq2 : jP g2 2 2 = D := by rw [← hg2, jP_sP, if_pos ⟨rfl, rfl⟩]
        have eS2 : jS g2 = jS g := by rw [← hg2]; rfl
        have eN2 : jN g2 = jN g := by rw [← hg2]; rfl
        have eY2 : jY g2 = jY g := by rw [← hg2]; rfl
        have eX2 : jX g2 = jX g := by rw [← hg2]; rfl
        have eI2 : jI g2 = jI g := by rw [← hg2]; rfl
        have hx2 : IX g2 := hxg.pz (fun a h1 _ => p2 a h1) p22 (by rw [p2 49 (by omega)]) eS2 (fun a _ => by rw [eY2]) (by have := hxg.b50; unfold RB at this ⊢; rw [eY2]; exact this)
        have hGN := hC.2.2.2.2.2.2.2.1
        have hDR2 : DRep g2 D' node' n' nw' nd' wi' sn' ns' code' cm' := by
          have := hC.2.2.2.2.2.2.1
          unfold DRep NRep at this ⊢
          rw [eI2, eX2]
          exact this
        refine Ex.mono (eX6_restart hx2.k50 hx2.b50 hGN.wn) ?_
        rintro r g3 ⟨rfl, fr, hb3, rr⟩
        have hx3 : IX g3 := hx2.upd (fr.fp (fun a h1 h2 => by unfold uP; omega)) (hx2.p89.fr fr (by omega)) hb3
        have hDR3 := hDR2.fp (fr.fp (P := fun a => 50 ≤ a ∧ a < 89) (fun a h1 h2 => ⟨h1, h2⟩)) hGN.1 (fun a h1 h2 => by omega)
        apply bX8_tells_54
        case s1 => exact hx3.s2
        case s2 => rw [hx3.p5]; exact hx3.p89.1
        case k1 =>
          rw [hx3.p5]
          have w7 : jS g3 326 = (17, 2) := hx3.2.1.2.2.2.2.2.2.1
          -- the loop and what is behind it
          generalize hg4 : jsI g3 89 0 0 = g4
          have hx4 : ∀ g5, jP g5 = jP g3 → jS g5 = jS g3 → jY g5 = jY g3 → IX g5 := fun g5 e1 e2 e3 => hx3.pz (fun a _ _ => by rw [e1]) (fun k _ _ => by rw [e1]) (by rw [e1]) e2 (fun a _ => by rw [e3]) (by have := hx3.b50; unfold RB at this ⊢; rw [e3]; exact this)
          have fin : ∀ g5, FP (fun a => a = 89 ∨ a = 326) g3 g5 → jI g5 89 0 = 0 → jX g5 326 0 = 0 → jX g5 326 1 = 0 → jY g5 = jY g3 → V MX8_tells (d + 13 + 12) 64 [some (.inr 2), some (.inl (it : Int)), some (.inr D), some (.inl 2)] [] g5 0 0 (PR MX9_tells (d' + 9) [.inr 476] K) := by
            intro g5 f5 i5 k5 k5' y5
            have hx5 : IX g5 := hx4 g5 f5.1 f5.2.1 y5
            apply bX8_tells_64
            case s1 => exact hx5.s2
            case s2 => rw [hx5.p7, f5.2.1, w7]
            case e1 =>
              intro _
              rw [hx5.p0]
              refine Ex_of_V tX7_empty (Nat.le_of_ble_eq_true rfl) ?_
              apply bX7_empty_0
              case s1 => exact hx5.t3.1
              case q1 =>
                apply bX8_tells_98
                generalize hg6 : jsI (jsI g5 2 10 0) 3 1 0 = g6
                have f6 : FP (fun a => a = 89 ∨ a = 326 ∨ a = 2 ∨ a = 3) g3 g6 := by
                  rw [← hg6]
                  exact ((f5.wide (fun a ha => by omega)).trans (FP.sI (by omega))).trans (FP.sI (by omega))
                have y6 : jY g6 = jY g3 := by rw [← hg6]; exact y5
                have hx6 : IX g6 := hx4 g6 f6.1 f6.2.1 y6
                have hTM6 : TXM g6 (jX h 4) c := by
                  refine ⟨hx6.mk, ?_, hTM.2.2.1, ?_⟩
                  · rw [(f6.2.2.2 476 (by omega)).1, (fr.2.2.2 476 (by omega)).1, eI2]; exact hTg.2.1
                  · rw [(f6.2.2.2 486 (by omega)).2.1, (fr.2.2.2 486 (by omega)).2.1, eX2]; exact hTg.2.2.2
                refine ⟨(it : Int), rfl, hx6.mk.x, eX9_tells hTM6 (fun g' hM0 => lk d' g6 _ hTM6 (fun g'' hM1 => ?_) g' hM0)⟩
                refine tells_end hit hTM6 hsq hM1 hGN.1 hGN.2.2.2.1 hGN.2.2.1 ?_
                intro gF ff m1 m2 m3 m6 hN hw hs m11 m49 m15 y0 y1
                refine ⟨rfl, D', _, n', nw', nd', _, _, ns', _, _, _, _, 0, IV.told (K := K + 1) hx6 ?_ (hDR3.fp f6 hGN.1 (fun a h1 h2 => by omega)) hGN (rr.fp hb3 (by decide) f6 (fun a h1 h2 => by omega)) ?_ ?_ ?_ ?_ ?_ ff m1 m2 m3 m6 hN hw hs m11 m49 m15 y0 y1 (by omega)⟩
                · rw [f6.1, fr.1, pq1, pq2]; omega
                · rw [← hg6, jI_sI, if_neg (by omega), jI_sI, if_neg (by omega)]; exact i5
                · rw [← hg6]; exact k5
                · rw [← hg6]; exact k5'
                · rw [← hg6, jI_sI, if_neg (by omega), jI_sI, if_pos ⟨rfl, rfl⟩]
                · rw [← hg6, jI_sI, if_pos ⟨rfl, rfl⟩]
            all_goals first
              | (rw [hx5.p0]; exact hx5.t3.1)
              | (rw [hx5.p7, f5.2.1, w7]; intro z; exact absurd (by decide) z)
          have f4 : FP (fun a => a = 89 ∨ a = 326) g3 g4 := by rw [← hg4]; exact FP.sI (Or.inl rfl)
          have i4 : jI g4 89 0 = 0 := by rw [← hg4, jI_sI, if_pos ⟨rfl, rfl⟩]
          have y4 : jY g4 = jY g3 := by rw [← hg4]; rfl
          have hxa : IX g4 := hx4 g4 f4.1 f4.2.1 y4
          have sa : jS g4 326 = (17, 2) := by rw [f4.2.1]; exact w7
          apply bX8_tells_64
          case s1 => exact hxa.s2
          case s2 => rw [hxa.p7, sa]
          case s3 => rw [hxa.p0]; exact hxa.t3.1
          case e1 => rw [hxa.p7, sa]; intro z; exact absurd z (by decide)
          case s4 => intro _; decide
          case s5 => intro _; rw [hxa.p7, sa]; decide
          case r1 => intro _; exact ⟨by decide, by decide⟩
          case k1 =>
            intro _
            rw [hxa.p7, show Int.toNat 0 = 0 from rfl, show (0 : Int) + 1 = 1 from rfl]
            have hxb : IX (jsX g4 326 0 0) := hx4 _ f4.1 f4.2.1 y4
            apply bX8_tells_64
            case s1 => exact hxb.s2
            case s2 => rw [hxb.p7]; show (jS g4 326).1 = 17; rw [sa]
            case s3 => rw [hxb.p0]; exact hxb.t3.1
            case e1 => rw [hxb.p7]; intro z; rw [show (jS (jsX g4 326 0 0) 326) = (17, 2) from sa] at z; exact absurd z (by decide)
            case s4 => intro _; decide
            case s5 => intro _; rw [hxb.p7]; rw [show (jS (jsX g4 326 0 0) 326) = (17, 2) from sa]; decide
            case r1 => intro _; exact ⟨by decide, by decide⟩
            case k1 =>
              intro _
              rw [hxb.p7, show Int.toNat 1 = 1 from rfl, show (1 : Int) + 1 = 2 from rfl]
              refine fin _ ((f4.trans (FP.sX (Or.inr rfl))).trans (FP.sX (Or.inr rfl))) i4 ?_ ?_ y4
              · rw [jX_sX, if_neg (fun z => absurd z.2 (by decide)), jX_sX, if_pos ⟨rfl, rfl⟩]
              · rw [jX_sX, if_pos ⟨rfl, rfl⟩]
    · obtain ⟨hIg, gd1, gd2, hTg⟩ := base g f
      have hxg := hIg.x
      apply bX8_tells_11
      case e1 => intro z; exact absurd rfl z
      case s1 => exact hxg.s2
      case s2 => rw [hxg.p4]; exact hxg.k50.1
      case s3 => rw [hxg.p0]; exact hxg.t3.1
      case r1 => intro _; rw [hxg.p0, hf]; exact ⟨by omega, by omega⟩
      case q1 =>
        intro _
        rw [hxg.p0, hf]
        refine ⟨_, rfl, hxg.mk.x, eX9_tells hTg (fun g' hM0 => lk d' g _ hTg (fun g'' hF => ⟨rfl, ?_⟩) g' hM0)⟩
        exact (hIg.xf (hF.1.xf (fun a ha => by unfold PP at ha; unfold sc; omega) (fun a ha => by unfold PFd at ha; unfold sf; omega))).ie
end NG
