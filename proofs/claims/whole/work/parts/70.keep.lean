/-! ===== both sides: keep ===== -/
section LQ
variable {h g : jH} {node wi sn code cm s past s' past' : Nat → Int} {n nw nd ns u u' D : Nat} {K K' : Int}
def kP (a : Nat) : Prop := (398 ≤ a ∧ a < 476) ∨ a = 326 ∨ a = 484 ∨ a = 485
theorem IV.kept (hI : IV h D node n nw nd wi sn ns code cm s past u K) (f : FP kP h g) (hA : RB g 398) (hB : RB g 437) (k0 : IK g node n K' 0 398) (k1 : IK g node n K' 1 437) (hK : K ≤ K') : IV g D node n nw nd wi sn ns code cm s past u K' := by
  obtain ⟨v1, ⟨v2, v3, v4, v5⟩, ⟨v6, v7, v8⟩, ⟨v9, v10, v11⟩, v12, v13, v14, v15⟩ := hI
  have e : ∀ a, ¬ kP a → jX g a = jX h a := fun a ha => (f.2.2.2 a ha).2.1
  have i476 : jI g 476 = jI h 476 := (f.2.2.2 476 (by unfold kP; omega)).1
  obtain ⟨x1, x2, x3, x4, x5, x6, x7, x8, x9, x10, x11, x12, x13, x14, x15, x16, x17, x18⟩ := id v1
  have hsi := v8.2.2.2.2.2.2.1
  refine ⟨⟨by rw [f.1, f.2.1]; exact x1, by rw [f.1, f.2.1]; exact x2, by rw [f.1, f.2.1]; exact x3, x4.fp f, x5.fp f (by unfold kP; omega), x6.fr f.1 f.2.1, x7.fr f.1 f.2.1, x8.fr f.1 f.2.1, x9.fp f, x10.fp f, x11.fp f (by unfold kP; omega), x12.fp f (by unfold kP; omega), x13.fp f (fun a h2 h3 => by unfold kP; omega), x14.fp f (by unfold kP; omega), hA, hB, by rw [(f.2.2.2 325 (by unfold kP; omega)).2.2]; exact x17, x18.fr f.1 f.2.1⟩, ⟨by rw [f.1]; exact v2, v3.fp f v5.1 (fun a h2 h3 => by unfold kP; omega), v4.fp f (fun a h2 h3 => by unfold kP; omega), v5⟩, ⟨v6.fp x14 hsi f (fun a h2 h3 => by unfold kP; omega), by rw [e 482 (by unfold kP; omega)]; exact v7, v8.grow hK⟩, ⟨(v9.fp x13 f (fun a h2 h3 => by unfold kP; omega)).grow hK, by rw [e 483 (by unfold kP; omega)]; exact v10, by rw [i476]; exact v11⟩, k0, k1, ?_, ?_⟩
  · unfold IO
    rw [e 327 (by unfold kP; omega), e 328 (by unfold kP; omega), e 503 (by unfold kP; omega), i476, (f.2.2.2 2 (by unfold kP; omega)).1]
    exact v14
  · unfold IT
    rw [e 4 (by unfold kP; omega), e 486 (by unfold kP; omega), i476, (f.2.2.2 3 (by unfold kP; omega)).1]
    exact v15
theorem IX.i6 (hI : IX h) : SK h 398 ∧ SK h 437 ∧ RB h 398 ∧ RB h 437 ∧ jY h 325 0 = 398 ∧ jY h 325 1 = 437 ∧ jS h 325 = (19, 2) ∧ jS h 326 = (17, 2) := ⟨hI.2.2.2.2.2.2.1, hI.2.2.2.2.2.2.2.1, hI.2.2.2.2.2.2.2.2.2.2.2.2.2.2.1, hI.2.2.2.2.2.2.2.2.2.2.2.2.2.2.2.1, hI.2.2.2.2.2.2.2.2.2.2.2.2.2.2.2.2.1.1, hI.2.2.2.2.2.2.2.2.2.2.2.2.2.2.2.2.1.2, hI.2.1.2.2.2.2.2.1, hI.2.1.2.2.2.2.2.2.1⟩
theorem pair_keep {d d' : Nat} {x : Int} (hI : IE h K) : Ex MX8_keep (d + 5) [.inr 2, .inl x] h 0 0 (PR MX9_keep (d' + 1) [.inr 476, .inl x] K) := by
  obtain ⟨D, node, n, nw, nd, wi, sn, ns, code, cm, s, past, u, hI⟩ := hI
  have hx := hI.x
  have hM := hI.mk
  obtain ⟨w1, w2, w3, w4, w5, w6, w7, w8⟩ := hx.i6
  obtain ⟨ka, kb⟩ : IK h node n K 0 398 ∧ IK h node n K 1 437 := ⟨hI.2.2.2.2.1, hI.2.2.2.2.2.1⟩
  have bad : ¬ (0 ≤ x ∧ x ≤ 1) → PR MX9_keep (d' + 1) [.inr 476, .inl x] K (some (.inl (-1))) h := by
    intro q
    refine pr_same hI (Ex_of_V tX9_keep (Nat.le_of_ble_eq_true rfl) ?_)
    apply bX9_keep_0
    case k1 => intro z; exact absurd z q
    case q1 => intro _; exact ⟨rfl, rfl⟩
  refine Ex_of_V tX8_keep (Nat.le_of_ble_eq_true rfl) ?_
  apply bX8_keep_0
  case q1 => intro q; exact bad (by omega)
  case q2 => intro _ q; exact bad (by omega)
  case e1 =>
    intro q q2
    obtain ⟨c, rfl, hc⟩ : ∃ c : Nat, x = (c : Int) ∧ c < 2 := ⟨x.toNat, by omega, by omega⟩
    have hc2 : c = 0 ∨ c = 1 := by omega
    have ey : jY h (jP h 2 6) ((((c : Nat) : Int)).toNat) = 398 + 39 * c := by rw [hx.p6, Int.toNat_natCast]; rcases hc2 with rfl | rfl; exact w5; exact w6
    have sk : SK h (398 + 39 * c) ∧ RB h (398 + 39 * c) := by rcases hc2 with rfl | rfl; exact ⟨w1, w3⟩; exact ⟨w2, w4⟩
    rw [ey, hx.p4]
    refine Ex.mono (eX6_copyFrom sk.1 hx.k50 (by omega) sk.2 hx.b50 hI.si hI.dg.wn hI.rr) ?_
    rintro v g ⟨rfl, fr, br, rep⟩
    have p7 : jP g 2 7 = 326 := by rw [fr.1]; exact hx.p7
    have p4 : jP g 2 4 = 50 := by rw [fr.1]; exact hx.p4
    apply bX8_keep_24
    case s1 => rw [fr.2.1]; exact hx.s2
    case s2 => rw [p7, fr.2.1, w8]
    case s3 => omega
    case s4 => rw [p7, fr.2.1, w8]; show (c : Int) < 2; omega
    case s5 => rw [p4, fr.2.1]; exact hx.k50.1
    case q1 =>
      rw [p4, p7, Int.toNat_natCast, (fr.2.2.2 50 (by omega)).1, hI.rr.1]
      have f1 : FP kP h (jsX g 326 c 1) := (fr.fp (fun a h1 h2 => by unfold kP; omega)).trans (FP.sX (by unfold kP; omega))
      have hM1 : MK (jsX g 326 c 1) := hM.fr f1.1 f1.2.1
      have es1 : jX (jsX g 326 c 1) 482 = s := (f1.2.2.2 482 (by unfold kP; omega)).2.1.trans hI.es
      refine ⟨s 0, rfl, hM1.x, Ex_of_V tX9_keep (Nat.le_of_ble_eq_true rfl) ?_⟩
      apply bX9_keep_0
      case q1 => intro z; omega
      case k1 =>
        intro _
        have key : ∀ (m i : Nat), i + m = 209 → V MX9_keep (d' + 1) 13 [some (.inr 476), some (.inl (c : Int)), some (.inl (i : Int))] [] (jfil (jsX g 326 c 1) 484 (209 * c) (209 * c + i) (fun k => s (k - 209 * c))) 0 0 (fun r g2 => r = some (.inl (s 0)) ∧ IE g2 (K + 1)) := by
          intro m
          induction m with
          | zero =>
            intro i hi
            obtain rfl : i = 209 := by omega
            have hM2 : MK (jfil (jsX g 326 c 1) 484 (209 * c) (209 * c + 209) (fun k => s (k - 209 * c))) := hM1.fr rfl rfl
            have f2 : FP kP h (jsX (jfil (jsX g 326 c 1) 484 (209 * c) (209 * c + 209) (fun k => s (k - 209 * c))) 485 c 1) := (f1.trans (FP.fil (by unfold kP; omega))).trans (FP.sX (by unfold kP; omega))
            have f3 : FP (fun a => a = 326 ∨ a = 484 ∨ a = 485) g (jsX (jfil (jsX g 326 c 1) 484 (209 * c) (209 * c + 209) (fun k => s (k - 209 * c))) 485 c 1) := ((FP.sX (Or.inl rfl)).trans (FP.fil (Or.inr (Or.inl rfl)))).trans (FP.sX (Or.inr (Or.inr rfl)))
            apply bX9_keep_13
            case q1 =>
              intro _
              rw [hM2.p13, hM2.p9, Int.toNat_natCast]
              refine ⟨?_, ?_⟩
              · rw [jX_sX, if_neg (by omega), jX_fil, if_neg (by omega), es1]
              · have g326 : ∀ i, jX (jsX (jfil (jsX g 326 c 1) 484 (209 * c) (209 * c + 209) (fun k => s (k - 209 * c))) 485 c 1) 326 i = if i = c then 1 else jX h 326 i := fun i => by
                  rw [jX_sX, if_neg (by omega), jX_fil, if_neg (by omega), jX_sX, (fr.2.2.2 326 (by omega)).2.1]
                  simp
                have g485 : ∀ i, jX (jsX (jfil (jsX g 326 c 1) 484 (209 * c) (209 * c + 209) (fun k => s (k - 209 * c))) 485 c 1) 485 i = if i = c then 1 else jX h 485 i := fun i => by
                  have e := (fr.2.2.2 485 (by omega)).2.1
                  simp [jX_sX, jX_fil, e]
                have g484 : ∀ k, jX (jsX (jfil (jsX g 326 c 1) 484 (209 * c) (209 * c + 209) (fun k => s (k - 209 * c))) 485 c 1) 484 k = if 209 * c ≤ k ∧ k < 209 * c + 209 then s (k - 209 * c) else jX h 484 k := fun k => by
                  have e := (fr.2.2.2 484 (by omega)).2.1
                  simp [jX_sX, jX_fil, e]
                have rbo : ∀ c2 : Nat, c2 < 2 → RB g (398 + 39 * c2) := fun c2 h2 => by
                  by_cases z : c2 = c
                  · subst z; exact br
                  · have hb : RB h (398 + 39 * c2) := by
                      have : c2 = 0 ∨ c2 = 1 := by omega
                      rcases this with rfl | rfl
                      · exact w3
                      · exact w4
                    exact hb.fr fr (by omega)
                have ik : ∀ c2 : Nat, c2 < 2 → IK h node n K c2 (398 + 39 * c2) → RB h (398 + 39 * c2) → IK (jsX (jfil (jsX g 326 c 1) 484 (209 * c) (209 * c + 209) (fun k => s (k - 209 * c))) 485 c 1) node n (K + 1) c2 (398 + 39 * c2) := by
                  intro c2 h2 hk hb
                  by_cases z : c2 = c
                  · subst z
                    refine ⟨by rw [g326, g485, if_pos rfl, if_pos rfl], by rw [g326, if_pos rfl]; exact Or.inr rfl, fun _ => ?_⟩
                    have he : ∀ k, k < 209 → (fun k => jX (jsX (jfil (jsX g 326 c2 1) 484 (209 * c2) (209 * c2 + 209) (fun k => s (k - 209 * c2))) 485 c2 1) 484 (209 * c2 + k)) k = s k := fun k hk => by
                      show jX _ 484 (209 * c2 + k) = s k
                      rw [g484, if_pos (by omega)]
                      congr 1
                      omega
                    exact ⟨(rep.row hI.dg.wn hI.si he).fp br (Int.le_trans (Int.le_of_eq (he 3 (by omega))) hI.si.2.2.2.2.2.2.1) f3 (fun a h1 h2 => by omega), (hI.si.row he).grow (by omega)⟩
                  · obtain ⟨y1, y2, y3⟩ := hk
                    refine ⟨by rw [g326, g485, if_neg z, if_neg z]; exact y1, by rw [g326, if_neg z]; exact y2, fun y => ?_⟩
                    rw [g326, if_neg z] at y
                    obtain ⟨t1, t2⟩ := y3 y
                    have he : ∀ k, k < 209 → (fun k => jX (jsX (jfil (jsX g 326 c 1) 484 (209 * c) (209 * c + 209) (fun k => s (k - 209 * c))) 485 c 1) 484 (209 * c2 + k)) k = (fun k => jX h 484 (209 * c2 + k)) k := fun k hk => by
                      show jX _ 484 (209 * c2 + k) = _
                      rw [g484, if_neg (by omega)]
                    have h6 := t2.2.2.2.2.2.2.1
                    have r1 := t1.fr hb h6 fr (by omega)
                    exact ⟨(r1.row hI.dg.wn t2 he).fp (rbo c2 h2) (Int.le_trans (Int.le_of_eq (he 3 (by omega))) h6) f3 (fun a h1 h2 => by omega), (t2.row he).grow (by omega)⟩
                exact ⟨D, node, n, nw, nd, wi, sn, ns, code, cm, s, past, u, hI.kept (K' := K + 1) f2 ((rbo 0 (by omega)).fp f3 (by omega)) ((rbo 1 (by omega)).fp f3 (by omega)) (ik 0 (by omega) ka w3) (ik 1 (by omega) kb w4) (by omega)⟩
            all_goals first
              | exact hM2.x
              | (rw [hM2.p9, hM2.s482]; done)
              | (rw [hM2.p12, hM2.s484]; done)
              | (rw [hM2.p13, hM2.s485]; done)
              | (intro z; exact absurd (by decide) z)
              | (intros; omega)
              | (intros; rw [hM2.p9, hM2.s482]; decide)
              | (intros; rw [hM2.p13, hM2.s485]; refine Int.lt_of_le_of_lt (b := 1) ?_ (by decide); omega)
          | succ m ih =>
            intro i hi
            have hM2 : MK (jfil (jsX g 326 c 1) 484 (209 * c) (209 * c + i) (fun k => s (k - 209 * c))) := hM1.fr rfl rfl
            apply bX9_keep_13
            case q1 => intro z; omega
            case k1 =>
              intro _
              rw [hM2.p9, hM2.p12, Int.toNat_natCast, show (209 * (c : Int) + (i : Int)).toNat = 209 * c + i by omega, show (i : Int) + 1 = ((i + 1 : Nat) : Int) by omega]
              have e9 : jX (jfil (jsX g 326 c 1) 484 (209 * c) (209 * c + i) (fun k => s (k - 209 * c))) 482 i = s (209 * c + i - 209 * c) := by
                rw [jX_fil, if_neg (by omega), es1, show 209 * c + i - 209 * c = i by omega]
              rw [e9, jfil_s rfl (by omega), show 209 * c + i + 1 = 209 * c + (i + 1) by omega]
              exact ih (i + 1) (by omega)
            all_goals first
              | exact hM2.x
              | (rw [hM2.p9, hM2.s482]; done)
              | (rw [hM2.p12, hM2.s484]; done)
              | (rw [hM2.p13, hM2.s485]; done)
              | (intros; exact ⟨by omega, by omega⟩)
              | (intros; omega)
              | (intros; rw [hM2.p9, hM2.s482]; refine Int.lt_of_le_of_lt (b := 208) ?_ (by decide); omega)
              | (intros; rw [hM2.p12, hM2.s484]; refine Int.lt_of_le_of_lt (b := 417) ?_ (by decide); omega)
        have h9 := key 209 0 (by omega)
        rw [show 209 * c + 0 = 209 * c from Nat.add_zero _, jfil_0] at h9
        exact h9
  all_goals first
    | exact hx.s2
    | (rw [hx.p6, w7]; done)
    | (intros; omega)
    | (intros; rw [hx.p6, w7]; refine Int.lt_of_le_of_lt (b := 1) ?_ (by decide); omega)
    | (intro q q2; obtain ⟨c, rfl, hc⟩ : ∃ c : Nat, x = (c : Int) ∧ c < 2 := ⟨x.toNat, by omega, by omega⟩; rw [hx.p6, Int.toNat_natCast]; have hc2 : c = 0 ∨ c = 1 := by omega
       rcases hc2 with rfl | rfl
       · rw [w5]; exact w1.1
       · rw [w6]; exact w2.1)
end LQ
