/-! ===== both sides: [ and ] ===== -/
section MV
variable {h g h0 g1 : jH} {b : Nat → Int} {c : Nat} {node wi sn code cm : Nat → Int} {n nw nd ns D d p f : Nat} {op : Int} {R : Option jA → jH → Prop}
/-- frames while the class reads items -/
def IFr (D : Nat) (h g : jH) : Prop :=
  jP g = jP h ∧ jS g = jS h ∧ jN g = jN h ∧ jY g = jY h ∧ (∀ a, ¬ (D ≤ a ∧ a ≤ D + 21) → jX g a = jX h a) ∧ (∀ a, a ≠ D → a ≠ 3 → a ≠ 49 → jI g a = jI h a) ∧ ∀ k, k < 2 → jI g 3 k = jI h 3 k
theorem IFr.rf : IFr D h h := ⟨rfl, rfl, rfl, rfl, fun _ _ => rfl, fun _ _ _ _ => rfl, fun _ _ => rfl⟩
theorem IFr.trans {k : jH} (h1 : IFr D h g) (h2 : IFr D g k) : IFr D h k :=
  ⟨h2.1.trans h1.1, h2.2.1.trans h1.2.1, h2.2.2.1.trans h1.2.2.1, h2.2.2.2.1.trans h1.2.2.2.1, fun a x => (h2.2.2.2.2.1 a x).trans (h1.2.2.2.2.1 a x), fun a x y z => (h2.2.2.2.2.2.1 a x y z).trans (h1.2.2.2.2.2.1 a x y z), fun a x => (h2.2.2.2.2.2.2 a x).trans (h1.2.2.2.2.2.2 a x)⟩
theorem TF.ifr (f : TF h g) : IFr D h g := ⟨f.1, f.2.1, f.2.2.1, f.2.2.2.1, fun a _ => by rw [f.2.2.2.2.1], fun a _ x _ => f.2.2.2.2.2.1 a x, fun k x => f.2.2.2.2.2.2 k x⟩
theorem CF.ifr (f : CF D n h g) (hn : n ≤ 11) : IFr D h g := ⟨f.1, f.2.1, f.2.2.1, f.2.2.2.1, fun a x => f.2.2.2.2.1 a (by omega) (by omega), fun a _ x y => f.2.2.2.2.2.2.1 a x y, f.2.2.2.2.2.2.2.1⟩
theorem IFr.s49 {k : Nat} {v : Int} : IFr D h (jsI h 49 k v) := ⟨rfl, rfl, rfl, rfl, fun _ _ => rfl, fun a _ _ y => funext fun j => by rw [jI_sI, if_neg (fun z => y z.1)], fun j x => by rw [jI_sI, if_neg (by omega)]⟩
theorem IFr.sX {a k : Nat} {v : Int} (ha : D ≤ a ∧ a ≤ D + 21) : IFr D h (jsX h a k v) := ⟨rfl, rfl, rfl, rfl, fun e x => funext fun j => by rw [jX_sX, if_neg (fun z => x (by rw [z.1]; exact ha))], fun _ _ _ _ => rfl, fun _ _ => rfl⟩
theorem IFr.sI {k : Nat} {v : Int} (h3 : D ≠ 3) : IFr D h (jsI h D k v) := ⟨rfl, rfl, rfl, rfl, fun _ _ => rfl, fun a x _ _ => funext fun j => by rw [jI_sI, if_neg (fun z => x z.1)], fun j x => by rw [jI_sI, if_neg (fun z => h3 z.1.symm)]⟩
theorem RDC.ifr (hR : RDC h D) (f : IFr D h g) : RDC g D := by unfold RDC; rw [f.1, f.2.1]; exact hR
theorem TXC.ifr (hT : TXC h b c) (f : IFr D h g) (hD : D = 5 ∨ D = 27) : TXC g b c := by
  unfold TXC
  rw [f.1, f.2.1, f.2.2.2.2.2.2 1 (by omega), f.2.2.2.2.1 4 (by omega)]
  exact hT
theorem DK.ifr {D' : Nat} (hK : DK h D) (f : IFr D' h g) : DK g D := by unfold DK; rw [f.1, f.2.1]; exact hK
theorem DY.ifr {D' : Nat} (hK : DY h D) (f : IFr D' h g) : DY g D := by unfold DY; rw [f.2.2.2.1]; exact hK
/-- the class, between two items -/
def CI (h : jH) (D : Nat) (b : Nat → Int) (c p : Nat) (node : Nat → Int) (n nw nd : Nat) (wi sn : Nat → Int) (ns : Nat) (code cm : Nat → Int) (op : Int) : Prop :=
  RDC h D ∧ TXC h b c ∧ TXP h b c p ∧ DK h D ∧ DY h D ∧ (D = 5 ∨ D = 27) ∧ DRep h D node n nw nd wi sn ns code cm ∧ DG node n nw nd wi sn ns code cm ∧ jI h 49 2 = tp op ∧ (op = -9 ∨ (0 ≤ op ∧ op < ns))
theorem CI.tf {q : Nat} (hC : CI h D b c p node n nw nd wi sn ns code cm op) (f : TF h g) (hq : TXP g b c q) : CI g D b c q node n nw nd wi sn ns code cm op := by
  obtain ⟨c1, c2, c3, c4, c5, c6, c7, c8, c9, c10⟩ := hC
  refine ⟨c1.tf f, c2.tf f, hq, c4.tf f, ?_, c6, c7.tf (by omega) f, c8, by rw [f.2.2.2.2.2.1 49 (by omega)]; exact c9, c10⟩
  unfold DY
  rw [f.2.2.2.1]
  exact c5
theorem CI.next {d : Nat} (hC : CI h D b c p node n nw nd wi sn ns code cm op) : Ex MX7_toNext d [.inr 3] h 0 0 (fun r g => r = none ∧ TF h g ∧ CI g D b c (tnx b c p) node n nw nd wi sn ns code cm op) := by
  refine Ex.mono (eX7_toNext hC.2.1 (ten_b hC.2.2.1.1).1 hC.2.2.1.2.2.1) ?_
  rintro r g ⟨rfl, f, hq⟩
  exact ⟨rfl, f, hC.tf f hq⟩
/-- the model, between two items -/
def MI (g1 g : jH) (b : Nat → Int) (c p : Nat) (node : Nat → Int) (n nw nd : Nat) (wi sn : Nat → Int) (ns : Nat) (code cm : Nat → Int) (op : Int) : Prop :=
  MF PP PFd g1 g ∧ TXQ g b c p ∧ jI g 476 20 = -9 ∧ NDR g node n wi sn ns ∧ jI g 476 23 = (nw : Int) ∧ jI g 476 24 = (nd : Int) ∧ jI g 476 30 = op ∧ jI g 476 31 = (dep wi ns op : Int) ∧ (∀ w, w < nd → ∀ j, j < 2 * (cm w).toNat → jX g 490 (40 * w + j) = code (40 * w + j)) ∧ ∀ k, k < nd → jX g 491 k = cm k ∧ cm k ≤ 17
def FI (g1 g : jH) (f : Nat) : Prop := MF PP PFd g1 g ∧ jI g 476 20 = (f : Int)
theorem MI.txm (hI : MI g1 g b c p node n nw nd wi sn ns code cm op) (hT : TXM g1 b c) : TXM g b c := hT.mf hI.1 (by unfold PP; omega) (by unfold PFd; omega)
theorem FI.mk (hI : FI g1 g f) (hT : TXM g1 b c) : MK g := hI.1.mk hT.1
theorem MI.nu {q : Nat} (hI : MI g1 g b c p node n nw nd wi sn ns code cm op) (f : MF nuP nuE g h) (hq : TXQ h b c q) (h20 : jI h 476 20 = -9) : MI g1 h b c q node n nw nd wi sn ns code cm op := by
  obtain ⟨m1, m2, m3, m4, m5, m6, m7, m8, m9, m10⟩ := hI
  have e : ∀ k, 20 < k → jI h 476 k = jI g 476 k := fun k hk => f.2.2.2.2.2.2 k (by unfold nuE; omega)
  have x : ∀ a, jX h a = jX g a := fun a => f.2.2.2.2.1 a (by unfold nuP; exact id)
  refine ⟨m1.trans (f.wide (fun a ha => ha.elim) (fun k hk => by unfold nuE at hk; unfold PFd; omega)), hq, h20, m4.mf f (by unfold nuP; exact id) (by unfold nuP; exact id) (by unfold nuP; exact id) (by unfold nuE; omega) (by unfold nuE; omega), by rw [e 23 (by omega)]; exact m5, by rw [e 24 (by omega)]; exact m6, by rw [e 30 (by omega)]; exact m7, by rw [e 31 (by omega)]; exact m8, by rw [x 490]; exact m9, by rw [x 491]; exact m10⟩
theorem MI.nf {q : Nat} (hI : MI g1 g b c p node n nw nd wi sn ns code cm op) (f : MF nuP nuF g h) (hq : TXQ h b c q) : MI g1 h b c q node n nw nd wi sn ns code cm op :=
  hI.nu (nu_wide f) hq (by rw [f.2.2.2.2.2.2 20 (by unfold nuF; omega)]; exact hI.2.2.1)
theorem MI.flt (hI : MI g1 g b c p node n nw nd wi sn ns code cm op) : FI g1 (jsI g 476 20 (jI g 476 17)) p :=
  ⟨hI.1.trans (MF.sI (by unfold PFd; omega)), by rw [jI_sI, if_pos ⟨rfl, rfl⟩]; exact hI.2.1.2.2.1⟩
theorem FI.ne (hI : FI g1 g f) : jI g 476 20 ≠ -9 := by rw [hI.2]; omega
/-- behind what is in an item -/
def SPost (M : jM) (e : Nat) (h : jH) (D : Nat) (b : Nat → Int) (c p : Nat) (node : Nat → Int) (n nw nd : Nat) (wi sn : Nat → Int) (ns : Nat) (code cm : Nat → Int) (op : Int) (r : Option jA) (g : jH) : Prop :=
  (r = some (.inl 1) ∧ ∃ (q n' nw' nd' ns' : Nat) (node' wi' sn' code' cm' : Nat → Int) (op' : Int), CI g D b c q node' n' nw' nd' wi' sn' ns' code' cm' op' ∧ IFr D h g ∧ p < q ∧
    ∀ (d : Nat) (g1 : jH) (R : Option jA → jH → Prop), TXM g1 b c → (∀ g', MI g1 g' b c q node' n' nw' nd' wi' sn' ns' code' cm' op' → R none g') → (¬ (tso b c q = 3 ∧ tva b c q = 59) → ∀ g', FI g1 g' q → R none g') → ∀ g', MI g1 g' b c p node n nw nd wi sn ns code cm op → Ex M (d + e) [.inr 476] g' 0 0 R) ∨
  (r = some (.inl 0) ∧ ∃ f : Nat, IFr D h g ∧ (jI g 3 2 = (f : Int) ∧ f ≤ c) ∧ ∀ (d : Nat) (g1 : jH) (R : Option jA → jH → Prop), TXM g1 b c → (∀ g', FI g1 g' f → R none g') → ∀ g', MI g1 g' b c p node n nw nd wi sn ns code cm op → Ex M (d + e) [.inr 476] g' 0 0 R)
/-- the model's begin of [ -/
theorem opens_0 (hT : TXM g1 b c) (n12 : n ≤ 12) (hI : MI g1 g b c p node n nw nd wi sn ns code cm op) (k1 : dep wi ns op ≤ 3 → ∀ g u1, MI g1 g b c (tnx b c p) node n nw nd wi sn ns code cm op → V MX9_opens (d + 4) 22 [some (.inr 476), u1] [] g 0 0 R) (k2 : 4 ≤ dep wi ns op → ∀ g, FI g1 g p → R none g) : Ex MX9_opens (d + 4) [.inr 476] g 0 0 R := by
  have hT2 := hI.txm hT
  have hM := hT2.1
  have h20 := hI.2.2.1
  have h31 := hI.2.2.2.2.2.2.2.1
  refine Ex_of_V tX9_opens (Nat.le_of_ble_eq_true rfl) ?_
  apply bX9_opens_0
  case e1 =>
    rw [h31]
    intro z
    refine Ex.mono (eX9_due0 hM h20) ?_
    rintro r g2 ⟨rfl, rfl⟩
    have hF := hI.flt
    have hM2 := hF.mk hT
    apply bX9_opens_17
    case e1 =>
      refine Ex.mono (eX9_passes_f hM2 hF.ne) ?_
      rintro r g3 ⟨rfl, rfl⟩
      -- nothing more is done
      have fin : ∀ u1, V MX9_opens (d + 4) 56 [some (.inr 476), u1] [] (jsI g 476 20 (jI g 476 17)) 0 0 R := by
        intro u1
        apply bX9_opens_56
        case q1 => intro _; exact k2 (by omega) _ hF
        case e1 => intro y; exact absurd y hF.ne
        all_goals exact hM2.x
      apply bX9_opens_22
      case e1 =>
        intro _
        refine Ex.mono (eX9_duef hM2 hF.ne) ?_
        rintro r g4 ⟨rfl, rfl⟩
        exact fin _
      case e2 =>
        intro _
        have hN2 : NDR (jsI g 476 20 (jI g 476 17)) node n wi sn ns := hI.2.2.2.1.mf (P := nuP) (F := nuE) (MF.sI (by unfold nuE; omega)) (by unfold nuP; exact id) (by unfold nuP; exact id) (by unfold nuP; exact id) (by unfold nuE; omega) (by unfold nuE; omega)
        refine Ex.mono (eX9_newNodeBy hM2 hN2.1 n12) ?_
        rintro r g4 ⟨⟨z1, rfl, -⟩, rfl⟩
        apply bX9_opens_43
        case e1 =>
          intro _
          refine Ex.mono (eX9_duef hM2 hF.ne) ?_
          rintro r g4 ⟨rfl, rfl⟩
          exact fin _
        case e2 =>
          intro _
          refine Ex.mono (eX9_duef hM2 hF.ne) ?_
          rintro r g4 ⟨rfl, rfl⟩
          exact fin _
        all_goals exact hM2.x
      all_goals exact hM2.x
    all_goals exact hM2.x
  case e2 =>
    rw [h31]
    intro z
    refine Ex.mono (eX9_due1 hM) ?_
    rintro r g2 ⟨rfl, rfl⟩
    apply bX9_opens_17
    case e1 =>
      refine Ex.mono (eX9_passes_y hT2 hI.2.1 h20 (by decide)) ?_
      rintro r g3 ⟨rfl, f3, hq⟩
      exact k1 (by omega) g3 _ (hI.nf f3 hq)
    all_goals exact hM.x
  all_goals exact hM.x
/-- the model's [, with a name behind it -/
theorem opens_22 {u1 : Option jA} (hT : TXM g1 b c) (hG : DG node n nw nd wi sn ns code cm) (hop : op = -9 ∨ (0 ≤ op ∧ op < ns)) (hI : MI g1 g b c p node n nw nd wi sn ns code cm op)
    (k0 : tso b c p ≠ 1 → ∀ g, FI g1 g p → R none g)
    (k1 : tso b c p = 1 → fN node n op (tva b c p) ≠ -9 → ∀ g, FI g1 g p → R none g)
    (k2 : tso b c p = 1 → fN node n op (tva b c p) = -9 → fS wi sn ns op (tva b c p) ≠ -9 → ∀ g, MI g1 g b c (tnx b c p) node n nw nd wi sn ns code cm (fS wi sn ns op (tva b c p)) → R none g)
    (k3 : tso b c p = 1 → fN node n op (tva b c p) = -9 → fS wi sn ns op (tva b c p) = -9 → 6 ≤ ns → ∀ g, FI g1 g p → R none g)
    (k4 : tso b c p = 1 → fN node n op (tva b c p) = -9 → fS wi sn ns op (tva b c p) = -9 → ns ≤ 5 → ∀ g, MI g1 g b c (tnx b c p) node n nw nd (up wi ns op) (up sn ns (tva b c p)) (ns + 1) code cm (ns : Int) → R none g) :
    V MX9_opens (d + 4) 22 [some (.inr 476), u1] [] g 0 0 R := by
  have hT2 := hI.txm hT
  have hM := hT2.1
  have h20 := hI.2.2.1
  have h18 := hI.2.1.2.2.2.1
  have n12 := hG.1
  have ns6 := hG.2.2.2.1
  have h30 := hI.2.2.2.2.2.2.1
  have h31 := hI.2.2.2.2.2.2.2.1
  have hN := hI.2.2.2.1
  -- a fault
  have bad : (∀ g, FI g1 g p → R none g) → Ex MX9_due d [.inr 476, .inl 0] g 0 0 (fun v h2 => V MX9_opens (d + 4) 56 [some (.inr 476), u1] (v.toList ++ []) h2 0 0 R) := by
    intro hk
    refine Ex.mono (eX9_due0 hM h20) ?_
    rintro r g2 ⟨rfl, rfl⟩
    have hF := hI.flt
    apply bX9_opens_56
    case q1 => intro _; exact hk _ hF
    case e1 => intro y; exact absurd y hF.ne
    all_goals exact (hF.mk hT).x
  apply bX9_opens_22
  case e1 => rw [h18]; intro z; exact bad (k0 z)
  case e2 =>
    rw [h18, h30]
    intro hs
    have h19 := hI.2.1.2.2.2.2 (tso_lt (b := b) (by rw [hs]; decide))
    have hlt : p < c := tso_lt (b := b) (by rw [hs]; decide)
    rw [h19]
    refine Ex.mono (eX9_newNodeBy (x := op) (c := tva b c p) hM hN.1 n12) ?_
    rintro r g2 ⟨⟨z1, rfl, hz1⟩, rfl⟩
    have e1 := fN_u hG (has_cong (f' := fun k => node (6 * k + 3)) (q' := fun k => node (6 * k + 4)) (x' := op) (fun k hk => by
      show (jX g2 487 (6 * k + 3) = op ↔ node (6 * k + 3) = op) ∧ jX g2 487 (6 * k + 4) = node (6 * k + 4)
      rw [hN.2.2.1 (6 * k + 3) (by omega), hN.2.2.1 (6 * k + 4) (by omega)]
      exact ⟨Iff.rfl, rfl⟩) hz1)
    subst e1
    apply bX9_opens_43
    case e1 => intro z; exact bad (k1 hs z)
    case e2 =>
      intro hz
      refine Ex.mono (eX9_due1 hM) ?_
      rintro r g3 ⟨rfl, rfl⟩
      apply bX9_opens_56
      case q1 => intro z; exact absurd h20 z
      case e1 =>
        intro _
        rw [h30, h19]
        refine Ex.mono (eX9_newScopeBy (x := op) (c := tva b c p) hM hN.2.1 ns6) ?_
        rintro r g4 ⟨⟨z2, rfl, hz2⟩, rfl⟩
        have e2 := fS_u hG (has_cong (f' := wi) (q' := sn) (x' := op) (fun k hk => by
          rw [(hN.2.2.2 k hk).1, (hN.2.2.2 k hk).2]
          exact ⟨Iff.rfl, rfl⟩) hz2)
        subst e2
        have hbs : fS wi sn ns op (tva b c p) = -9 ∨ (0 ≤ fS wi sn ns op (tva b c p) ∧ fS wi sn ns op (tva b c p) < ns) := fS_b
        have hd4 := hG.d4 hop
        apply bX9_opens_78
        case r1 => rw [h31]; intro _; exact ⟨by omega, by omega⟩
        case e1 =>
          intro z
          rw [h31]
          have hwi : wi (fS wi sn ns op (tva b c p)).toNat = op := by
            rcases has_fnd (f := wi) (q := sn) (x := op) (c := tva b c p) ns with ⟨k, k1, k2, k3, k4⟩ | ⟨k1, k2⟩
            · have : fS wi sn ns op (tva b c p) = (k : Int) := k4
              rw [this, Int.toNat_natCast]; exact k2
            · exact absurd k2 z
          have hdp := dep_s (x := fS wi sn ns op (tva b c p)) hG.wiB (by omega) (by omega)
          rw [hwi] at hdp
          obtain ⟨m1, m2, m3, m4, m5, m6, m7, m8, m9, m10⟩ := id hI
          have hI2 : MI g1 (jsI (jsI g4 476 30 (fS wi sn ns op (tva b c p))) 476 31 ((dep wi ns op : Int) + 1)) b c p node n nw nd wi sn ns code cm (fS wi sn ns op (tva b c p)) := by
            have e : ∀ k, k ≠ 30 → k ≠ 31 → jI (jsI (jsI g4 476 30 (fS wi sn ns op (tva b c p))) 476 31 ((dep wi ns op : Int) + 1)) 476 k = jI g4 476 k := fun k h1 h2 => by rw [jI_sI, if_neg (by omega), jI_sI, if_neg (by omega)]
            refine ⟨(m1.trans (MF.sI (by unfold PFd; omega))).trans (MF.sI (by unfold PFd; omega)), ⟨m2.1, by rw [e 16 (by omega) (by omega)]; exact m2.2.1, by rw [e 17 (by omega) (by omega)]; exact m2.2.2.1, by rw [e 18 (by omega) (by omega)]; exact m2.2.2.2.1, fun q => by rw [e 19 (by omega) (by omega)]; exact m2.2.2.2.2 q⟩, by rw [e 20 (by omega) (by omega)]; exact m3, ⟨by rw [e 22 (by omega) (by omega)]; exact m4.1, by rw [e 27 (by omega) (by omega)]; exact m4.2.1, m4.2.2⟩, by rw [e 23 (by omega) (by omega)]; exact m5, by rw [e 24 (by omega) (by omega)]; exact m6, ?_, ?_, m9, m10⟩
            · rw [jI_sI, if_neg (by omega), jI_sI, if_pos ⟨rfl, rfl⟩]
            · rw [jI_sI, if_pos ⟨rfl, rfl⟩, hdp]; omega
          refine Ex.mono (eX9_next (hI2.txm hT) (ten_b hI2.2.1.1).1 hI2.2.1.2.1) ?_
          rintro r g5 ⟨rfl, f5, hq⟩
          apply bX9_opens_167
          exact k2 hs hz z _ (hI2.nf f5 hq)
        case e2 =>
          rw [hN.2.1]
          intro z z2
          refine Ex.mono (eX9_due0 hM h20) ?_
          rintro r g5 ⟨rfl, rfl⟩
          have hF := hI.flt
          apply bX9_opens_103
          case q1 => intro _; exact k3 hs hz z (by omega) _ hF
          case e1 => intro y; exact absurd y hF.ne
          all_goals first
            | exact (hF.mk hT).x
            | (intro y; exact absurd y hF.ne)
            | (rw [(hF.mk hT).p25, (hF.mk hT).s488]; done)
            | (rw [(hF.mk hT).p26, (hF.mk hT).s489]; done)
        case e3 =>
          rw [hN.2.1]
          intro z z2
          refine Ex.mono (eX9_due1 hM) ?_
          rintro r g5 ⟨rfl, rfl⟩
          apply bX9_opens_103
          case q1 => intro y; exact absurd h20 y
          case e1 =>
            intro _
            rw [hN.2.1, h30, h31, h19, hM.p25, hM.p26, Int.toNat_natCast]
            obtain ⟨m1, m2, m3, m4, m5, m6, m7, m8, m9, m10⟩ := id hI
            generalize hgg : jsI (jsI (jsI (jsX (jsX g5 488 ns op) 489 ns (tva b c p)) 476 27 ((ns : Int) + 1)) 476 30 (ns : Int)) 476 31 ((dep wi ns op : Int) + 1) = gg2
            have hI2 : MI g1 gg2 b c p node n nw nd (up wi ns op) (up sn ns (tva b c p)) (ns + 1) code cm (ns : Int) := by
              rw [← hgg]
              have e : ∀ k, k ≠ 30 → k ≠ 31 → k ≠ 27 → jI (jsI (jsI (jsI (jsX (jsX g5 488 ns op) 489 ns (tva b c p)) 476 27 ((ns : Int) + 1)) 476 30 (ns : Int)) 476 31 ((dep wi ns op : Int) + 1)) 476 k = jI g5 476 k := fun k h1 h2 h3 => by
                rw [jI_sI, if_neg (by omega), jI_sI, if_neg (by omega), jI_sI, if_neg (by omega)]
                rfl
              refine ⟨((((m1.trans (MF.sX (by unfold PP; omega))).trans (MF.sX (by unfold PP; omega))).trans (MF.sI (by unfold PFd; omega))).trans (MF.sI (by unfold PFd; omega))).trans (MF.sI (by unfold PFd; omega)), ⟨m2.1, by rw [e 16 (by omega) (by omega) (by omega)]; exact m2.2.1, by rw [e 17 (by omega) (by omega) (by omega)]; exact m2.2.2.1, by rw [e 18 (by omega) (by omega) (by omega)]; exact m2.2.2.2.1, fun q => by rw [e 19 (by omega) (by omega) (by omega)]; exact m2.2.2.2.2 q⟩, by rw [e 20 (by omega) (by omega) (by omega)]; exact m3, ⟨by rw [e 22 (by omega) (by omega) (by omega)]; exact m4.1, ?_, fun k hk => ?_, fun k hk => ?_⟩, by rw [e 23 (by omega) (by omega) (by omega)]; exact m5, by rw [e 24 (by omega) (by omega) (by omega)]; exact m6, ?_, ?_, fun k hk j hj => ?_, fun k hk => ?_⟩
              · rw [jI_sI, if_neg (by omega), jI_sI, if_neg (by omega), jI_sI, if_pos ⟨rfl, rfl⟩]; omega
              · rw [jX_sI, jX_sI, jX_sI, jX_sX, if_neg (by omega), jX_sX, if_neg (by omega)]; exact m4.2.2.1 k hk
              · rw [jX_sI, jX_sI, jX_sI, jX_sX, if_neg (show ¬ (488 = 489 ∧ k = ns) by omega), jX_sX, jX_sX]
                by_cases y : k = ns
                · rw [if_pos ⟨rfl, y⟩, if_pos ⟨rfl, y⟩, y, up_s, up_s]; exact ⟨rfl, rfl⟩
                · rw [if_neg (fun w => y w.2), if_neg (fun w => y w.2), up_o y, up_o y, jX_sX, if_neg (by omega)]
                  exact m4.2.2.2 k (by omega)
              · rw [jI_sI, if_neg (by omega), jI_sI, if_pos ⟨rfl, rfl⟩]
              · rw [jI_sI, if_pos ⟨rfl, rfl⟩, dep_new hop]; omega
              · rw [jX_sI, jX_sI, jX_sI, jX_sX, if_neg (by omega), jX_sX, if_neg (by omega)]; exact m9 k hk j hj
              · rw [jX_sI, jX_sI, jX_sI, jX_sX, if_neg (by omega), jX_sX, if_neg (by omega)]; exact m10 k hk
            refine Ex.mono (eX9_next (hI2.txm hT) (ten_b hI2.2.1.1).1 hI2.2.1.2.1) ?_
            rintro r g6 ⟨rfl, f6, hq⟩
            apply bX9_opens_167
            exact k4 hs hz z (by omega) _ (hI2.nf f6 hq)
          all_goals (try rw [hN.2.1])
          all_goals (try rw [h31])
          all_goals first
            | exact hM.x
            | (rw [hM.p25, hM.s488]; done)
            | (rw [hM.p26, hM.s489]; done)
            | (intros; exact ⟨by omega, by omega⟩)
            | (intros; omega)
            | (intros; rw [hM.p25, hM.s488]; refine Int.lt_of_le_of_lt (b := 5) ?_ (by decide); omega)
            | (intros; rw [hM.p26, hM.s489]; refine Int.lt_of_le_of_lt (b := 5) ?_ (by decide); omega)
        all_goals exact hM.x
      all_goals exact hM.x
    all_goals exact hM.x
  all_goals exact hM.x
end MV
