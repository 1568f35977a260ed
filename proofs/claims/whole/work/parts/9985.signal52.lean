/-! ===== class: a signal, whole ===== -/
section NB2
variable {h g h0 g1 gE : jH} {b : Nat → Int} {c : Nat} {node wi sn code cm code' cm' cw ci : Nat → Int} {n nw nd ns nw' nd' D d p q f L t m : Nat} {op x : Int} {R : Option jA → jH → Prop}
theorem knd_0 (h1 : tso b c p = 3 ∧ tva b c p = 58) : knd b c p = 0 := if_pos h1
theorem knd_1 (h1 : tso b c p = 3 ∧ tva b c p = 64) : knd b c p = 1 := by unfold knd; rw [if_neg (by omega), if_pos h1]
theorem knd_2 (h1 : tso b c p = 3 ∧ tva b c p = 61) : knd b c p = 2 := by unfold knd; rw [if_neg (by omega), if_neg (by omega)]
theorem eX5_readSignal (hC : CI h D b c p node n nw nd wi sn ns code cm op) (h3 : jI h 49 3 = 0) (h4 : jI h 49 4 = 0) (hs : tso b c p = 1) : Ex MX5_readSignal (d + 13 + 9) [.inr 49] h 0 0 (SPost MX9_readsNode 7 h D b c p node n nw nd wi sn ns code cm op) := by
  obtain ⟨c1, c2, c3, c4, c5, c6, c7, c8, c9, c10⟩ := id hC
  have n12 := c8.1
  have ns6 := c8.2.2.2.1
  have hnw6 := c8.2.1
  have hnd4 := c8.2.2.1
  have hby := c2.2.2.2.2.1
  have hx := tva_name hs
  have hp : p < c := tso_lt (b := b) (by rw [hs]; decide)
  have hn1 := tnx_b (b := b) (c := c) c3.1
  have hn1' := hn1.2 hp
  have el : jlet (jI h (jP h 49 0) 4) = tva b c p := by rw [c1.2.1, c3.2.2.2, lk_l, if_pos hs]
  refine Ex_of_V tX5_readSignal (Nat.le_of_ble_eq_true rfl) ?_
  apply bX5_readSignal_0
  case q1 => rw [el]; intro z; omega
  case q2 =>
    rw [c1.2.2, c7.1]
    intro _ z
    exact Or.inr ⟨rfl, p, IFr.rf, ⟨c3.2.1, c3.1⟩, fun d' g1 R hT hk g' hI => rnBad hT c8 hI hs (Or.inl (by omega)) hk⟩
  case e1 =>
    rw [el, c1.2.2, c7.1, c9]
    intro _ zn
    have hn : n ≤ 11 := by omega
    refine Ex.mono (eX2_nm c4 c7 c8 (by omega)) ?_
    rintro r g ⟨rfl, rfl⟩
    apply bX5_readSignal_38
    case q1 =>
      intro z
      exact Or.inr ⟨rfl, p, IFr.rf, ⟨c3.2.1, c3.1⟩, fun d' g1 R hT hk g' hI => rnBad hT c8 hI hs (Or.inr z) hk⟩
    case e1 =>
      intro hf
      obtain ⟨f1, f2⟩ := nmv_free hf
      rw [c1.2.1]
      refine Ex.mono hC.next ?_
      rintro r g2 ⟨rfl, ft2, hC2⟩
      obtain ⟨b1, b2, b3, b4, b5, b6, b7, b8, b9, b10⟩ := id hC2
      have esg : jI g2 (jP g2 49 0) 4 = tsg b c (tnx b c p) := by rw [b1.2.1]; exact b3.2.2.2
      have g23 : jI g2 49 = jI g 49 := ft2.2.2.2.2.2.1 49 (by omega)
      have lk : ∀ y : Int, sgn y → (tsg b c (tnx b c p) = y ↔ (tso b c (tnx b c p) = 3 ∧ tva b c (tnx b c p) = y)) := fun y hy => lk_s hy
      have l58 := lk 58 (by unfold sgn; omega)
      have l64 := lk 64 (by unfold sgn; omega)
      have l61 := lk 61 (by unfold sgn; omega)
      -- the sign can't stand there
      have fail1 : ¬ knok b c (tnx b c p) nw nd → SPost MX9_readsNode 7 g D b c p node n nw nd wi sn ns code cm op (some (.inl 0)) g2 := by
        intro hk
        exact Or.inr ⟨rfl, tnx b c p, ft2.ifr, ⟨b3.2.1, b3.1⟩, fun d' g1 R hT hk2 g' hI => rnGood hT c8 hI hs hn hf (fun g3 hI3 => rn56 hT hI3 (fun y => absurd y hk) (fun _ => hk2))⟩
      -- with the sign
      have goodM : ∀ (d' : Nat) (g1 : jH) (R : Option jA → jH → Prop), TXM g1 b c → knok b c (tnx b c p) nw nd → (∀ g3, MI g1 g3 b c (tnx b c (tnx b c p)) node n nw nd wi sn ns code cm op → V MX9_readsNode (d' + 7) 142 [some (.inr 476), some (.inl (tva b c p)), some (.inl (knd b c (tnx b c p))), none, none] [] g3 0 0 R) → ∀ g', MI g1 g' b c p node n nw nd wi sn ns code cm op → Ex MX9_readsNode (d' + 7) [.inr 476] g' 0 0 R := by
        intro d' g1 R hT hkn hk g' hI
        exact rnGood hT c8 hI hs hn hf (fun g3 hI3 => rn56 hT hI3 (fun _ => hk) (fun y => absurd hkn y))
      have hlt1 : tsg b c (tnx b c p) = 58 ∨ tsg b c (tnx b c p) = 64 ∨ tsg b c (tnx b c p) = 61 → tnx b c p < c := by
        rintro (y | y | y)
        · exact tso_lt (b := b) (by rw [(l58.mp y).1]; decide)
        · exact tso_lt (b := b) (by rw [(l64.mp y).1]; decide)
        · exact tso_lt (b := b) (by rw [(l61.mp y).1]; decide)
      -- a wire
      have wire : tsg b c (tnx b c p) = 58 → nw ≤ 5 → Ex MX7_toNext (d + 13) [.inr (jP g2 49 0)] g2 0 0 (fun v h2 => V MX5_readSignal (d + 13 + 9) 83 [some (.inr 49), some (.inl (tva b c p)), none, none] (v.toList ++ []) h2 0 0 (SPost MX9_readsNode 7 g D b c p node n nw nd wi sn ns code cm op)) := by
        intro y hw
        have yy := l58.mp y
        have hn2 := (tnx_b (b := b) (c := c) hn1.1).2 (hlt1 (Or.inl y))
        have hn2b := (tnx_b (b := b) (c := c) hn1.1).1
        rw [b1.2.1]
        refine Ex.mono hC2.next ?_
        rintro r g3 ⟨rfl, ft3, hC3⟩
        have hkn : knok b c (tnx b c p) nw nd := Or.inl ⟨yy.1, yy.2, hw⟩
        apply bX5_readSignal_83
        case e1 =>
          refine Ex.mono (eX5_readWidth hC3) ?_
          rintro r g4 (⟨w, rfl, ft4, hC4⟩ | ⟨w, rfl, rfl⟩)
          · have hlt2 : tnx b c (tnx b c p) < c := tso_lt (b := b) (by rw [w.1]; decide)
            have hn3 := (tnx_b (b := b) (c := c) hn2b).2 hlt2
            have hG' : DG (nd6 node n 0 (tva b c (tnx b c (tnx b c p))) (-9) op (tva b c p) (nw : Int)) (n + 1) (nw + 1) nd wi sn ns code cm := by
              refine DG_add c8 hn (by omega) (by omega) (Nat.le_refl _) hnd4 (fun _ _ => rfl) (fun _ _ => rfl) ?_ (fun _ => rfl) f1 f2
              unfold NB
              rw [nd6_0, nd6_1, nd6_2, nd6_3, nd6_4, nd6_5]
              exact ⟨Or.inl ⟨rfl, w.2.1, w.2.2, rfl, by omega, by omega⟩, c10, hx⟩
            apply bX5_readSignal_89
            case q1 => intro z; omega
            case e1 =>
              intro _
              rw [hC4.1.2.2, hC4.2.2.2.2.2.2.2.2.1]
              refine Ex.mono (eX2_addSignal (kd := 0) (x := tva b c p) (x1 := tva b c (tnx b c (tnx b c p))) (x2 := -9) (x5 := (nw : Int)) (v := tva b c (tnx b c (tnx b c p))) (nw' := nw + 1) (nd' := nd) (code' := code) (cm' := cm) hC4 hn (Or.inl rfl) hG' (if_pos rfl).symm (if_neg (by decide)).symm (fun _ => rfl) (fun z => absurd z (by decide)) (fun _ _ => rfl) (fun _ _ => rfl) (fun z => absurd z (by decide))) ?_
              rintro r g5 ⟨rfl, hC5, fr5⟩
              apply bX5_readSignal_202
              refine Or.inl ⟨rfl, tnx b c (tnx b c (tnx b c p)), n + 1, nw + 1, nd, ns, _, wi, sn, code, cm, op, hC5, ((ft2.ifr.trans ft3.ifr).trans ft4.ifr).trans fr5, by omega, fun d' g1 R hT hk _ => goodM d' g1 R hT hkn (fun g6 hI6 => ?_)⟩
              rw [knd_0 yy]
              exact rnWire hT hn hw hnd4 hI6 (fun _ _ _ => hk) (fun z => absurd w z)
            all_goals first
              | exact hC4.1.1
              | (rw [hC4.1.2.2]; exact hC4.2.2.2.1.1)
          · apply bX5_readSignal_89
            case q1 =>
              intro _
              refine Or.inr ⟨rfl, tnx b c (tnx b c p), ft2.ifr.trans ft3.ifr, ⟨hC3.2.2.1.2.1, hC3.2.2.1.1⟩, fun d' g1 R hT hk => goodM d' g1 R hT hkn (fun g6 hI6 => ?_)⟩
              rw [knd_0 yy]
              exact rnWire hT hn hw hnd4 hI6 (fun z1 z2 z3 => absurd ⟨z1, z2, z3⟩ w) (fun _ => hk)
            case e1 => intro z; exact absurd rfl z
            all_goals first
              | exact hC3.1.1
              | (rw [hC3.1.2.2]; exact hC3.2.2.2.1.1)
        all_goals exact hC3.1.1
      -- at another
      have ali : tsg b c (tnx b c p) = 64 → Ex MX7_toNext (d + 13) [.inr (jP g2 49 0)] g2 0 0 (fun v h2 => V MX5_readSignal (d + 13 + 9) 112 [some (.inr 49), some (.inl (tva b c p)), none, none] (v.toList ++ []) h2 0 0 (SPost MX9_readsNode 7 g D b c p node n nw nd wi sn ns code cm op)) := by
        intro y
        have yy := l64.mp y
        have hn2 := (tnx_b (b := b) (c := c) hn1.1).2 (hlt1 (Or.inr (Or.inl y)))
        have hn2b := (tnx_b (b := b) (c := c) hn1.1).1
        rw [b1.2.1]
        refine Ex.mono hC2.next ?_
        rintro r g3 ⟨rfl, ft3, hC3⟩
        obtain ⟨a1, a2, a3, a4, a5, a6, a7, a8, a9, a10⟩ := id hC3
        have hkn : knok b c (tnx b c p) nw nd := Or.inr (Or.inl yy)
        have hpb := ppf_b (node := node) (n := n) (wi := wi) (sn := sn) (ns := ns) hby 5 (tnx b c (tnx b c p)) (-9) hn2b
        apply bX5_readSignal_112
        case e1 =>
          refine Ex.mono (eX5_readPath a1 a2 a3 a4 (by omega) a7 a8) ?_
          rintro r g4 ⟨rfl, ft4, hp4⟩
          have hC4 := hC3.tf ft4 hp4
          apply bX5_readSignal_118
          case q1 =>
            intro z
            refine Or.inr ⟨rfl, _, (ft2.ifr.trans ft3.ifr).trans ft4.ifr, ⟨hp4.2.1, hp4.1⟩, fun d' g1 R hT hk => goodM d' g1 R hT hkn (fun g6 hI6 => ?_)⟩
            rw [knd_1 yy]
            exact rnAlias hT c8 hn hI6 (fun z2 => absurd z z2) (fun _ => hk)
          case e1 =>
            intro z
            have hv := hpb.2.2 z
            rw [hC4.1.2.2, hC4.2.2.2.2.2.2.2.2.1]
            have hG' : DG (nd6 node n 1 (-9) (ppf node n wi sn ns b c 5 (tnx b c (tnx b c p)) (-9)).1 op (tva b c p) (nd : Int)) (n + 1) nw nd wi sn ns code cm := by
              refine DG_add c8 hn (Nat.le_refl _) hnw6 (Nat.le_refl _) hnd4 (fun _ _ => rfl) (fun _ _ => rfl) ?_ (fun q => absurd q (by decide)) f1 f2
              unfold NB
              rw [nd6_0, nd6_1, nd6_2, nd6_3, nd6_4, nd6_5]
              exact ⟨Or.inr (Or.inl ⟨rfl, rfl, hv.2.1, hv.2.2⟩), c10, hx⟩
            refine Ex.mono (eX2_addSignal (kd := 1) (x := tva b c p) (x1 := -9) (x2 := (ppf node n wi sn ns b c 5 (tnx b c (tnx b c p)) (-9)).1) (x5 := (nd : Int)) (v := (ppf node n wi sn ns b c 5 (tnx b c (tnx b c p)) (-9)).1) (nw' := nw) (nd' := nd) (code' := code) (cm' := cm) hC4 hn (Or.inr (Or.inl rfl)) hG' (if_neg (by decide)).symm (if_neg (by decide)).symm (fun z => absurd z (by decide)) (fun _ => rfl) (fun _ _ => rfl) (fun _ _ => rfl) (fun z => absurd z (by decide))) ?_
            rintro r g5 ⟨rfl, hC5, fr5⟩
            apply bX5_readSignal_202
            refine Or.inl ⟨rfl, _, n + 1, nw, nd, ns, _, wi, sn, code, cm, op, hC5, ((ft2.ifr.trans ft3.ifr).trans ft4.ifr).trans fr5, by omega, fun d' g1 R hT hk _ => goodM d' g1 R hT hkn (fun g6 hI6 => ?_)⟩
            rw [knd_1 yy]
            exact rnAlias hT c8 hn hI6 (fun _ => hk) (fun z2 => absurd z2 z)
          all_goals first
            | exact hC4.1.1
            | (rw [hC4.1.2.2]; exact hC4.2.2.2.1.1)
        all_goals exact hC3.1.1
      -- a derived signal
      have derived : tsg b c (tnx b c p) = 61 → nd ≤ 3 → Ex MX7_toNext (d + 13) [.inr (jP g2 49 0)] g2 0 0 (fun v h2 => V MX5_readSignal (d + 13 + 9) 152 [some (.inr 49), some (.inl (tva b c p)), none, none] (v.toList ++ []) h2 0 0 (SPost MX9_readsNode 7 g D b c p node n nw nd wi sn ns code cm op)) := by
        intro y hd
        have yy := l61.mp y
        have hn2 := (tnx_b (b := b) (c := c) hn1.1).2 (hlt1 (Or.inr (Or.inr y)))
        have hn2b := (tnx_b (b := b) (c := c) hn1.1).1
        rw [b1.2.1]
        refine Ex.mono hC2.next ?_
        rintro r g3 ⟨rfl, ft3, hC3⟩
        obtain ⟨a1, a2, a3, a4, a5, a6, a7, a8, a9, a10⟩ := id hC3
        obtain ⟨e0, e1, e2, e3, e4, e5, e6, e7, e8, e9, e10, e11, e12, e13, e14, e15, e16, e17, -⟩ := id a4
        have hkn : knok b c (tnx b c p) nw nd := Or.inr (Or.inr ⟨yy.1, yy.2, hd⟩)
        have i33 : jI g3 49 = jI g 49 := (ft3.2.2.2.2.2.1 49 (by omega)).trans g23
        apply bX5_readSignal_152
        case e1 =>
          rw [a1.2.2]
          refine Ex_of_V tX2_beginCode (Nat.le_of_ble_eq_true rfl) ?_
          apply bX2_beginCode_0
          case q1 => rw [a7.1]; intro z; omega
          case q2 =>
            rw [a7.1, e8, Int.toNat_natCast]
            intro _
            have cf0 : CF D n g3 (jsX g3 (D + 20) n 0) := ⟨rfl, rfl, rfl, rfl, fun a _ z => funext fun k => by rw [jX_sX, if_neg (fun w => z w.1)], fun k hk => by rw [jX_sX, if_neg (fun w => hk w.2)], fun _ _ _ => rfl, fun _ _ => rfl, fun _ _ => rfl⟩
            have hC4 : CI (jsX g3 (D + 20) n 0) D b c (tnx b c (tnx b c p)) node n nw nd wi sn ns code cm op := hC3.cf hn cf0 a3
            have hB4 := hC4.cbs hn
            have hX4 : CXS (jsX g3 (D + 20) n 0) D n (jsX g3 (D + 20) n 0) b c (tnx b c (tnx b c p)) 0 0 0 (fun _ => 0) (fun _ => 0) := by
              refine ⟨CF.rf, a3, ?_, ?_, ?_, fun j hj => absurd hj (Nat.not_lt_zero _)⟩
              · show jI g3 49 3 = _; rw [i33]; exact h3
              · show jI g3 49 4 = _; rw [i33]; exact h4
              · rw [jX_sX, if_pos ⟨rfl, rfl⟩]; rfl
            apply bX5_readSignal_161 (dr := d + 21)
            case hdr => omega
            case s1 => exact hC4.1.1
            case e1 =>
              refine Ex.mono (eX5_readExpression hB4 hd hX4) ?_
              rintro r g5 (⟨rfl, q3, t3, m3, L3, cw3, ci3, hX5, hR5, hH5, hno, hM5⟩ | ⟨rfl, f, hF, hf5, hM5⟩)
              · obtain ⟨r1, r2, r3, r4, r5, r6, r7⟩ := id hR5
                have hL : L3 ≤ 17 := by omega
                have hq1 : hq cw3 L3 = 1 := r7
                have hC5 := hC4.cf hn hX5.1 hX5.2.1
                have hG' : DG (nd6 node n 2 (-9) (-9) op (tva b c p) (nd : Int)) (n + 1) nw (nd + 1) wi sn ns (mcode code nd cw3 ci3) (up cm nd (L3 : Int)) := by
                  refine DG_add c8 hn (Nat.le_refl _) hnw6 (by omega) (by omega) (fun j hj => mcode_o hj) (fun j hj => up_o (by omega)) ?_ (fun q => absurd q (by decide)) f1 f2
                  unfold NB
                  have ew : wr (nd6 node n 2 (-9) (-9) op (tva b c p) (nd : Int)) n = nd := by unfold wr; rw [nd6_5, Int.toNat_natCast]
                  rw [nd6_0, nd6_1, nd6_2, nd6_3, nd6_4, nd6_5, ew, up_s, Int.toNat_natCast]
                  exact ⟨Or.inr (Or.inr ⟨rfl, rfl, rfl, by omega, by omega, by omega, CW_of hH5 hq1 hL⟩), c10, hx⟩
                apply bX5_readSignal_165
                case e1 => intro z; exact absurd z (by decide)
                case q1 => intro z; exact absurd z (by decide)
                case e2 =>
                  intro _
                  rw [hC5.1.2.2, hC5.2.2.2.2.2.2.2.2.1]
                  refine Ex.mono (eX2_addSignal (kd := 2) (x := tva b c p) (x1 := -9) (x2 := -9) (x5 := (nd : Int)) (v := 0) (nw' := nw) (nd' := nd + 1) (code' := mcode code nd cw3 ci3) (cm' := up cm nd (L3 : Int)) hC5 hn (Or.inr (Or.inr rfl)) hG' (if_neg (by decide)).symm (if_pos rfl).symm (fun z => absurd z (by decide)) (fun z => absurd z (by decide)) (fun j hj => mcode_o hj) (fun j hj => up_o (by omega)) (fun _ => ⟨?_, fun j hj => ?_⟩)) ?_
                  · rw [Int.toNat_natCast, up_s]; exact hX5.2.2.2.2.1
                  · rw [Int.toNat_natCast, up_s] at hj
                    rw [Int.toNat_natCast, mcode_w, mcode_i]
                    exact hX5.2.2.2.2.2 j (by omega)
                  · rintro r g6 ⟨rfl, hC6, fr6⟩
                    apply bX5_readSignal_202
                    refine Or.inl ⟨rfl, q3, n + 1, nw, nd + 1, ns, _, wi, sn, _, _, op, hC6, (((ft2.ifr.trans ft3.ifr).trans (cf0.ifr hn)).trans (hX5.1.ifr hn)).trans fr6, by omega, fun d' g1 R hT hk hk2 => goodM d' g1 R hT hkn (fun g7 hI7 => ?_)⟩
                    rw [knd_2 ⟨yy.1, yy.2⟩]
                    have hT7 := hI7.txm hT
                    refine rnDer hT c8 hn hd hI7 (hM5 d' g7 _ [] (Or.inl rfl) ⟨hT7, hI7.2.2.2.2.2.1, hI7.2.2.2.1⟩ ?_)
                    refine MA_end hT7 hno (Or.inl rfl) (fun _ z1 z2 g8 hE8 => ?_) (fun z g8 hE8 h208 => ?_)
                    · exact rnDerEnd hT c8 hn hd hL hI7 hE8 hk
                    · exact rn405 hT ⟨hE8.mi hI7, h208⟩ (hk2 (fun w => z ⟨rfl, w.1, w.2⟩))
                all_goals first
                  | exact hC5.1.1
                  | (rw [hC5.1.2.2]; exact hC5.2.2.2.1.1)
                  | (intros; rw [hC5.1.2.2]; exact hC5.2.2.2.1.1)
              · have hB5 := hB4.cf hF
                apply bX5_readSignal_165
                case q1 =>
                  intro _ _
                  refine Or.inr ⟨rfl, f, ((ft2.ifr.trans ft3.ifr).trans (cf0.ifr hn)).trans (hF.ifr hn), hf5, fun d' g1 R hT hk => goodM d' g1 R hT hkn (fun g7 hI7 => ?_)⟩
                  rw [knd_2 ⟨yy.1, yy.2⟩]
                  have hT7 := hI7.txm hT
                  refine rnDer hT c8 hn hd hI7 (hM5 d' g7 _ [] (Or.inl rfl) ⟨hT7, hI7.2.2.2.2.2.1, hI7.2.2.2.1⟩ ?_)
                  intro g8 hE8 h208
                  exact rn405 hT ⟨hE8.mi hI7, h208⟩ hk
                case e1 => intro _ z; exact absurd rfl z
                case e2 => intro z; exact absurd rfl z
                all_goals first
                  | exact hB5.1.1
                  | (rw [hB5.1.2.2]; exact hB5.2.2.1.1)
                  | (intros; rw [hB5.1.2.2]; exact hB5.2.2.1.1)
          all_goals (try rw [a7.1])
          all_goals first
            | exact e0
            | (rw [e8, e17]; done)
            | (intros; omega)
            | (intros; rw [e8, e17]; refine Int.lt_of_le_of_lt (b := 11) ?_ (by decide); omega)
        all_goals first
          | exact a1.1
          | (rw [a1.2.2]; exact e0)
      apply bX5_readSignal_52
      case q1 =>
        rw [esg]
        intro z1 z2 z3
        refine fail1 ?_
        rintro (w | w | w)
        · exact z1 (l58.mpr ⟨w.1, w.2.1⟩)
        · exact z2 (l64.mpr w)
        · exact z3 (l61.mpr ⟨w.1, w.2.1⟩)
      case q2 =>
        rw [esg, b1.2.2, b7.2.2.1]
        intro z1 z2 z3 z4
        refine fail1 ?_
        rintro (w | w | w)
        · exact z1 (l58.mpr ⟨w.1, w.2.1⟩)
        · exact z2 (l64.mpr w)
        · omega
      case q3 =>
        rw [esg, b1.2.2, b7.2.1]
        intro z1 z2 z3 z4
        refine fail1 ?_
        rintro (w | w | w)
        · omega
        · exact z3 (l64.mpr w)
        · exact z4 (l61.mpr ⟨w.1, w.2.1⟩)
      case q4 => rw [esg]; intro z1 _ _ z2; omega
      case e3 => rw [esg]; intro z1 _ _ z2; omega
      case e4 => rw [esg]; intro z1 _ z2; omega
      case e1 => rw [esg, b1.2.2, b7.2.2.1]; intro _ _ z3 z4; exact derived z3 (by omega)
      case e2 => rw [esg]; intro _ z2; exact ali z2
      case e5 => rw [esg, b1.2.2, b7.2.1]; intro z1 z2; exact wire z1 (by omega)
      all_goals first
        | exact b1.1
        | (rw [b1.2.1]; exact b2.1)
        | (rw [b1.2.2]; exact b4.1)
    all_goals first
      | exact c1.1
      | (rw [c1.2.1]; exact c2.1)
  all_goals first
    | exact c1.1
    | (rw [c1.2.1]; exact c2.1)
    | (rw [c1.2.2]; exact c4.1)
end NB2
