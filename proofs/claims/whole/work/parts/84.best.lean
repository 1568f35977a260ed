/-! ===== both sides: packed, best: the class's side, and both ===== -/
section ME
variable {h g : jH} {node wi sn code cm s past : Nat → Int} {n nw nd ns u D : Nat} {K : Int}
def gP (a : Nat) : Prop := 393 ≤ a ∧ a ≤ 396
theorem GK.fr (h1 : GK h) (hP : jP g = jP h) (hS : jS g = jS h) : GK g := by
  unfold GK at *
  rw [hP, hS]
  exact h1
theorem eX8_roomDivided {d sz : Nat} (hI : IV h D node n nw nd wi sn ns code cm s past u K) (hz1 : 1 ≤ sz) (hz8 : sz ≤ 8) :
    Ex MX8_roomDivided (d + 5) [.inr 2, .inl (sz : Int)] h 0 0 (fun r g => r = some (.inl (pkr s nw sz (s 3).toNat)) ∧ FP gP h g) := by
  have hs := hI.si
  have hnw := hI.nw6
  have h01 := hs.2.1
  have h5 := hs.2.2.2.2.2.1
  have h6 := hs.2.2.2.2.2.2.1
  refine Ex_of_V tX8_roomDivided (Nat.le_of_ble_eq_true rfl) ?_
  apply bX8_roomDivided_0
  have key : ∀ c i : Nat, i + c = (s 3).toNat → ∀ g u5, FP gP h g → (pkb s i ≠ -9 → jI g 393 0 = (pkc s i : Int)) → (∀ k, k < pkc s i → jX g 396 k = pkv s i k ∧ jX g 394 k = pkt s i k) → V MX8_roomDivided (d + 5) 8 [some (.inr 2), some (.inl (sz : Int)), some (.inl (pkr s nw sz i)), some (.inl (pkb s i)), some (.inl (i : Int)), u5] [] g 0 0 (fun r g => r = some (.inl (pkr s nw sz (s 3).toNat)) ∧ FP gP h g) := by
    intro c
    induction c with
    | zero =>
      intro i hi g u5 f e45 er
      have hJ := hI.xf (f.xf (fun a ha => by unfold gP at ha; unfold sc; omega))
      have hx := hJ.x
      apply bX8_roomDivided_8
      case q1 => intro _; rw [show i = (s 3).toNat by omega]; exact ⟨rfl, f⟩
      all_goals (try rw [hJ.b4])
      all_goals first
        | exact hx.s2
        | exact hJ.rk
        | (rw [hJ.bs]; done)
        | (rw [hx.p12]; exact hx.gk.1)
        | (intro z; omega)
    | succ c ih =>
      intro i hi g u5 f e45 er
      have hb : (i : Int) < s 3 := by omega
      have hm8 := bM8 hs hb
      have ho := pko_all hs i (by omega)
      obtain ⟨m1, m2, mm3, m4, m5⟩ := pko_m hs hb ho
      have hpr := pkr_b (sz := sz) (nw := nw) hs hnw i (by omega)
      have ho1 := ho.1
      have hB := hs.2.2.2.2.2.2.2.2.2.2 i hb
      -- behind the begin
      have add : ∀ g : jH, FP gP h g → jI g 393 0 = (pkc s i : Int) → (∀ k, k < pkc s i → jX g 396 k = pkv s i k ∧ jX g 394 k = pkt s i k) → Ex MX1_addAll (d + 1) [.inr (jP g 2 12), .inr (jP g (jY g (jP g (jP g 2 4) 5) (((i : Int)).toNat)) 3)] g 0 0 (fun v h2 => V MX8_roomDivided (d + 5) 64 [some (.inr 2), some (.inl (sz : Int)), some (.inl (pkr s nw sz i)), some (.inl (pmb s i)), some (.inl (i : Int)), some (.inr (jY g (jP g (jP g 2 4) 5) (((i : Int)).toNat)))] (v.toList ++ []) h2 0 0 (fun r g => r = some (.inl (pkr s nw sz (s 3).toNat)) ∧ FP gP h g)) := by
        intro g f e45 er
        have hJ := hI.xf (f.xf (fun a ha => by unfold gP at ha; unfold sc; omega))
        have hx := hJ.x
        obtain ⟨g0, g1, g2, g3, g4, g5, g6⟩ := id hx.gk
        obtain ⟨j, hj, ej, bk, br⟩ := hJ.blk hb
        obtain ⟨c1, c2, c3, c4, c5, c6, c7, c8⟩ := hJ.chg hb bk br
        obtain ⟨k1, k2, k3, k4, k5, k6, k7, k8, k9, k10, k11⟩ := id bk
        rw [Int.toNat_natCast, ej, hx.p12]
        rw [k3] at c1 c3
        rw [k3]
        have hCH : CH g 393 48 := ⟨g0, by rw [g1, g4], by rw [g1, g4], by rw [g2, g5], by rw [g2, g5], by rw [g3, g6], by rw [g3, g6]⟩
        have hap : chap g 393 (53 + 6 * j + 2) := by
          intro x y x1 x3 y1 y3
          have q1 : jP g 393 x = 394 ∨ jP g 393 x = 395 ∨ jP g 393 x = 396 := by
            rcases (show x = 1 ∨ x = 2 ∨ x = 3 by omega) with rfl | rfl | rfl
            · exact Or.inl g1
            · exact Or.inr (Or.inl g2)
            · exact Or.inr (Or.inr g3)
          have q2 : jP g (53 + 6 * j + 2) y = 53 + 6 * j + 3 ∨ jP g (53 + 6 * j + 2) y = 53 + 6 * j + 4 ∨ jP g (53 + 6 * j + 2) y = 53 + 6 * j + 5 := by
            rcases (show y = 1 ∨ y = 2 ∨ y = 3 by omega) with rfl | rfl | rfl
            · exact Or.inl k6
            · exact Or.inr (Or.inl k7)
            · exact Or.inr (Or.inr k8)
          omega
        have hin : chin g 393 := ⟨by rw [g1, g2]; decide, by rw [g1, g3]; decide, by rw [g2, g3]; decide⟩
        refine Ex.mono (eX1_addAll (m := bM s i) hCH bk.ch hap hin (by omega) (by rw [e45]; omega) c1 hm8 (by rw [e45, Int.toNat_natCast]; unfold pmc at m1; omega) (by decide) (by decide)) ?_
        rintro v w ⟨rfl, ew⟩
        have fw : FP gP g w := by
          rw [ew]
          unfold chapp
          rw [g1, g2, g3]
          exact (((FP.fil (by unfold gP; omega)).trans (FP.fil (by unfold gP; omega))).trans (FP.fil (by unfold gP; omega))).trans (FP.sI (by unfold gP; omega))
        have f2 := f.trans fw
        have w0 : jI w 393 0 = (pmc s i : Int) := by
          rw [ew]
          unfold chapp
          rw [jI_sI, if_pos ⟨rfl, rfl⟩, e45, Int.toNat_natCast]
          rfl
        have wr2 : ∀ k, k < pmc s i → jX w 396 k = pkv s (i + 1) k ∧ jX w 394 k = pkt s (i + 1) k := by
          intro k hk
          unfold pmc at hk
          rw [ew]
          unfold chapp
          rw [g1, g2, g3, k6, k7, k8, e45, Int.toNat_natCast, pkv_s, pkt_s]
          rw [k6, k8] at c3
          have n1 : ¬ (394 = 396 ∧ pkc s i ≤ k ∧ k < pkc s i + bM s i) := by omega
          have n2 : ¬ (394 = 395 ∧ pkc s i ≤ k ∧ k < pkc s i + bM s i) := by omega
          have n3 : ¬ (396 = 395 ∧ pkc s i ≤ k ∧ k < pkc s i + bM s i) := by omega
          have n4 : ¬ (396 = 394 ∧ pkc s i ≤ k ∧ k < pkc s i + bM s i) := by omega
          refine ⟨?_, ?_⟩
          · rw [jX_sI, jX_fil]
            by_cases z : pkc s i ≤ k ∧ k < pkc s i + bM s i
            · rw [if_pos ⟨rfl, z⟩, if_pos z]
              have := (c3 (k - pkc s i) (by omega)).1
              rw [Nat.zero_add] at this
              exact this
            · rw [if_neg (fun y => z y.2), if_neg z, jX_fil, if_neg n3, jX_fil, if_neg n4]
              exact (er k (by omega)).1
          · rw [jX_sI, jX_fil, if_neg n1, jX_fil, if_neg n2, jX_fil]
            by_cases z : pkc s i ≤ k ∧ k < pkc s i + bM s i
            · rw [if_pos ⟨rfl, z⟩, if_pos z]
              have := (c3 (k - pkc s i) (by omega)).2
              rw [Nat.zero_add] at this
              exact this
            · rw [if_neg (fun y => z y.2), if_neg z]
              exact (er k (by omega)).2
        have hJ2 := hI.xf (f2.xf (fun a ha => by unfold gP at ha; unfold sc; omega))
        have hx2 := hJ2.x
        obtain ⟨j', hj', ej', bk', br'⟩ := hJ2.blk hb
        have ejj : jY w (jP w (jP w 2 4) 5) i = 53 + 6 * j := by
          rw [fw.1, (fw.2.2.2 _ (show ¬ gP (jP g (jP g 2 4) 5) by rw [hx.p4, hx.k50.2.1]; unfold gP; omega)).2.2]
          exact ej
        rw [ejj] at ej'
        rw [← ej'] at br' bk'
        have part : cls s i → Ex MX8_roomOfGroup (d + 4) [.inr 2, .inl (pmb s i), .inl (sz : Int)] w 0 0 (fun v h2 => V MX8_roomDivided (d + 5) 95 [some (.inr 2), some (.inl (sz : Int)), some (.inl (pkr s nw sz i)), some (.inl (pmb s i)), some (.inl (i : Int)), some (.inr (53 + 6 * j))] (v.toList ++ [.inl (pkr s nw sz i)]) h2 0 0 (fun r g => r = some (.inl (pkr s nw sz (s 3).toNat)) ∧ FP gP h g)) := by
          intro hc
          refine Ex.mono (eX8_roomOfGroup (nw := nw) (c := pmc s i) (b := pmb s i) hx2.s2 hx2.gk hx2.p12 hJ2.dk hJ2.w1 hnw w0 (by omega) hz1 hz8 m2 (by omega) (fun k hk => ?_)) ?_
          · rw [(wr2 k hk).2]
            have := m5 k hk
            omega
          · rintro r g4 ⟨rfl, rfl⟩
            rw [grp_cong wr2]
            have hg := grp_b (f := pkv s (i + 1)) (t := pkt s (i + 1)) (b := pmb s i) (sz := sz) (c := pmc s i) hnw (by omega)
            apply bX8_roomDivided_95
            case k1 =>
              have h9 := ih (i + 1) (by omega) g4 (some (.inr (53 + 6 * j))) f2 (fun y => absurd (pkb_y hc) y) (fun k hk => by rw [pkc_y hc] at hk; omega)
              rw [pkr_y hc, pkb_y hc, show ((i + 1 : Nat) : Int) = (i : Int) + 1 by omega] at h9
              exact h9
            all_goals exact ⟨by omega, by omega⟩
        apply bX8_roomDivided_64
        case e1 => rw [br'.2.1]; intro z; exact part (Or.inl z)
        case e2 => rw [hJ2.b4]; intro _ z; exact part (Or.inr z)
        case k1 =>
          rw [br'.2.1, hJ2.b4]
          intro z1 z2
          have hc : ¬ cls s i := fun y => y.elim (fun y => y z1) z2
          have h9 := ih (i + 1) (by omega) w (some (.inr (53 + 6 * j))) f2 (fun _ => by rw [w0, pkc_n hc]) (fun k hk => wr2 k (by rw [pkc_n hc] at hk; exact hk))
          rw [pkr_n hc, pkb_n hc, show ((i + 1 : Nat) : Int) = (i : Int) + 1 by omega] at h9
          exact h9
        all_goals (try rw [hJ2.b4])
        all_goals first
          | exact hx2.s2
          | exact hJ2.rk
          | exact bk'.1
          | (intros; exact ⟨by omega, by omega⟩)
          | (intros; omega)
      have hJ := hI.xf (f.xf (fun a ha => by unfold gP at ha; unfold sc; omega))
      have hx := hJ.x
      obtain ⟨j, hj, ej, bk, br⟩ := hJ.blk hb
      obtain ⟨c1, c2, c3, c4, c5, c6, c7, c8⟩ := hJ.chg hb bk br
      apply bX8_roomDivided_8
      case q1 => rw [hJ.b4]; intro z; omega
      case e1 =>
        intro _ z
        have h9 := add g f (e45 z) er
        have : pmb s i = pkb s i := if_neg z
        rw [this] at h9
        exact h9
      case e2 =>
        intro _ z
        have hz0 : pkc s i = 0 := ho.2.1 z
        rw [hx.p12]
        have h9 := add (jsI g 393 0 0) (f.trans (FP.sI (by unfold gP; omega))) (by rw [jI_sI, if_pos ⟨rfl, rfl⟩, hz0]; rfl) (fun k hk => by omega)
        have : pmb s i = s (11 + 33 * i) := if_pos z
        rw [this] at h9
        rw [Int.toNat_natCast, ej, br.1]
        rw [Int.toNat_natCast] at h9
        have e2 : jY (jsI g 393 0 0) (jP (jsI g 393 0 0) (jP (jsI g 393 0 0) 2 4) 5) i = 53 + 6 * j := ej
        rw [e2] at h9
        have e3 : jP (jsI g 393 0 0) 2 12 = 393 := hx.p12
        rw [e3] at h9
        exact h9
      all_goals (try rw [hJ.b4])
      all_goals (try rw [Int.toNat_natCast])
      all_goals (try rw [ej])
      all_goals first
        | exact hx.s2
        | exact hJ.rk
        | (rw [hJ.bs]; done)
        | (intros; exact bk.1)
        | (rw [hx.p12]; exact hx.gk.1)
        | (intros; rw [hx.p12]; exact hx.gk.1)
        | (intros; exact c4)
        | (intros; omega)
        | (intros; rw [hJ.bs]; refine Int.lt_of_le_of_lt (b := 5) ?_ (by decide); omega)
  exact key (s 3).toNat 0 (by omega) h none FP.rf (fun z => absurd rfl z) (fun k hk => absurd hk (Nat.not_lt_zero _))
end ME
