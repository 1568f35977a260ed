/-! ===== both sides: undo ===== -/
section LP
variable {h g : jH} {node wi sn code cm s past s' past' : Nat → Int} {n nw nd ns u u' D : Nat} {K K' : Int}
theorem pair_undo {d d' : Nat} (hI : IE h K) : Ex MX8_undo (d + 6) [.inr 2] h 0 0 (PR MX9_undo d' [.inr 476] K) := by
  obtain ⟨D, node, n, nw, nd, wi, sn, ns, code, cm, s, past, u, hI⟩ := hI
  have hx := hI.x
  have hM := hI.mk
  have hu6 := hI.u6
  obtain ⟨hpr, hep, heu⟩ := hI.2.2.2.1
  have h89 : jI h (jP h 2 5) 0 = (u : Int) := by rw [hx.p5]; exact hpr.1
  refine Ex_of_V tX8_undo (Nat.le_of_ble_eq_true rfl) ?_
  apply bX8_undo_0
  case s1 => exact hx.s2
  case s2 => rw [hx.p5]; exact hx.p89.1
  case q1 =>
    rw [h89]
    intro q
    refine pr_same hI (Ex_of_V tX9_undo (Nat.le_of_ble_eq_true rfl) ?_)
    apply bX9_undo_0
    case s1 => exact hM.x
    case r1 => rw [heu]; intro z; exact absurd q z
    case k1 => rw [heu]; intro z; exact absurd q z
    case q1 => intro _; exact ⟨rfl, rfl⟩
  case e1 =>
    rw [h89]
    intro q
    obtain ⟨v, rfl⟩ : ∃ v, u = v + 1 := ⟨u - 1, by omega⟩
    rw [hx.p5, hx.p4]
    have q2 := (hpr.2.2 v (by omega)).2
    refine Ex.mono (eX4_bringBack hx.p89 hpr hx.k50 hx.b50 hI.dg.wn) ?_
    rintro r g ⟨rfl, b1, b2, b3, b4, b5, b6, b7, b8, b9⟩
    have f1 : FP uP h g := ⟨b2, b3, b4, fun a ha => by
      have ha2 : a < 50 ∨ 325 ≤ a := by unfold uP at ha; omega
      have := b5 a (by omega)
      exact ⟨this.2.2 (by omega), this.1, this.2.1⟩⟩
    have hM1 : MK g := hM.fr b2 b3
    have p5 : jP g 2 5 = 89 := by rw [b2]; exact hx.p5
    apply bX8_undo_24
    case s1 => rw [b3]; exact hx.s2
    case s2 => rw [p5, b3]; exact hx.p89.1
    case q1 =>
      rw [p5, b1]
      refine ⟨(v : Int), rfl, hM1.x, Ex_of_V tX9_undo (Nat.le_of_ble_eq_true rfl) ?_⟩
      have i476 : jI g 476 = jI h 476 := (b5 476 (by omega)).2.2 (by omega)
      have e11 : jI g 476 11 = ((v + 1 : Nat) : Int) := by rw [i476]; exact heu
      have ep1 : jX g 483 = past := (b5 483 (by omega)).1.trans hep
      have es1 : jX g 482 = s := (b5 482 (by omega)).1.trans hI.es
      apply bX9_undo_0
      case s1 => exact hM1.x
      case r1 => rw [e11]; intros; exact ⟨by omega, by omega⟩
      case q1 => rw [e11]; intro z; omega
      case k1 =>
        intro _
        rw [e11, show ((v + 1 : Nat) : Int) - 1 = (v : Int) by omega]
        have key : ∀ (m i : Nat), i + m = 209 → V MX9_undo d' 22 [some (.inr 476), some (.inl (i : Int))] [] (jfil (jsI g 476 11 (v : Int)) 482 0 i (fun k => past (209 * v + k))) 0 0 (fun r g2 => r = some (.inl (v : Int)) ∧ IE g2 (K + 1)) := by
          intro m
          induction m with
          | zero =>
            intro i hi
            obtain rfl : i = 209 := by omega
            have hM2 : MK (jfil (jsI g 476 11 (v : Int)) 482 0 209 (fun k => past (209 * v + k))) := hM1.fr rfl rfl
            have f3 : FP (fun a => a = 482 ∨ a = 476) g (jfil (jsI g 476 11 (v : Int)) 482 0 209 (fun k => past (209 * v + k))) := (FP.sI (Or.inr rfl)).trans (FP.fil (Or.inl rfl))
            have ev : jI (jfil (jsI g 476 11 (v : Int)) 482 0 209 (fun k => past (209 * v + k))) 476 11 = (v : Int) := by rw [jI_fil, jI_sI, if_pos ⟨rfl, rfl⟩]
            apply bX9_undo_22
            case q1 =>
              intro _
              refine ⟨by rw [ev], D, node, n, nw, nd, wi, sn, ns, code, cm, fun k => if k < 209 then past (209 * v + k) else s k, past, v, ?_⟩
              have he : ∀ k, k < 209 → (fun k => if k < 209 then past (209 * v + k) else s k) k = (fun k => past (209 * v + k)) k := fun k hk => if_pos hk
              refine hI.upd (K' := K + 1) (f1.trans (f3.wide (fun a ha => by unfold uP; omega))) (fun j hj => ?_) (b6.fp f3 (fun a h1 h2 => by omega)) (b8.fp f3 (by omega)) ((b9.row hI.dg.wn q2 he).fp b8 ?_ f3 (fun a h1 h2 => by omega)) ?_ ((q2.row he).grow (by omega)) ((b7.fp b6 f3 (fun a h1 h2 => by omega)).grow (by omega)) ?_ ev (by omega)
              · rw [jI_fil, jI_sI, if_neg (fun z => hj z.2), i476]
              · exact q2.2.2.2.2.2.2.1
              · funext k
                rw [jX_fil]
                by_cases z : k < 209
                · rw [if_pos ⟨rfl, by omega, z⟩, if_pos z]
                · rw [if_neg (by omega), if_neg z, jX_sI, es1]
              · funext k
                rw [jX_fil, if_neg (by omega), jX_sI, ep1]
            all_goals first
              | exact hM2.x
              | (rw [hM2.p9, hM2.s482]; done)
              | (rw [hM2.p10, hM2.s483]; done)
              | (intro z; exact absurd (by decide) z)
          | succ m ih =>
            intro i hi
            have hM2 : MK (jfil (jsI g 476 11 (v : Int)) 482 0 i (fun k => past (209 * v + k))) := hM1.fr rfl rfl
            have ev : jI (jfil (jsI g 476 11 (v : Int)) 482 0 i (fun k => past (209 * v + k))) 476 11 = (v : Int) := by rw [jI_fil, jI_sI, if_pos ⟨rfl, rfl⟩]
            apply bX9_undo_22
            case q1 => intro z; omega
            case k1 =>
              intro _
              rw [hM2.p9, hM2.p10, ev, Int.toNat_natCast, show (209 * (v : Int) + (i : Int)).toNat = 209 * v + i by omega, show (i : Int) + 1 = ((i + 1 : Nat) : Int) by omega]
              have e9 : jX (jfil (jsI g 476 11 (v : Int)) 482 0 i (fun k => past (209 * v + k))) 483 (209 * v + i) = past (209 * v + i) := by rw [jX_fil, if_neg (by omega), jX_sI, ep1]
              rw [e9, jfil_s rfl (by omega)]
              exact ih (i + 1) (by omega)
            all_goals first
              | exact hM2.x
              | (rw [hM2.p9, hM2.s482]; done)
              | (rw [hM2.p10, hM2.s483]; done)
              | (rw [ev]; intros; exact ⟨by omega, by omega⟩)
              | (intros; exact ⟨by omega, by omega⟩)
              | (intros; omega)
              | (rw [ev]; intros; omega)
              | (intros; rw [hM2.p9, hM2.s482]; refine Int.lt_of_le_of_lt (b := 208) ?_ (by decide); omega)
              | (rw [ev]; intros; rw [hM2.p10, hM2.s483]; refine Int.lt_of_le_of_lt (b := 1253) ?_ (by decide); omega)
        have h9 := key 209 0 (by omega)
        rw [jfil_0] at h9
        exact h9
end LP
