/-! ===== both sides: an item ===== -/
section NC
variable {h g h0 g1 gE : jH} {b : Nat → Int} {c : Nat} {node wi sn code cm : Nat → Int} {n nw nd ns D d p q f : Nat} {op x : Int} {R : Option jA → jH → Prop}
theorem MI.tk {x : Int} (hI : MI g1 g b c p node n nw nd wi sn ns code cm op) : (jI g 476 18 = 3 ∧ jI g 476 19 = x) ↔ (tso b c p = 3 ∧ tva b c p = x) := by
  have h18 := hI.2.1.2.2.2.1
  constructor
  · rintro ⟨y1, y2⟩
    rw [h18] at y1
    rw [hI.2.1.2.2.2.2 (tso_lt (b := b) (by rw [y1]; decide))] at y2
    exact ⟨y1, y2⟩
  · rintro ⟨y1, y2⟩
    rw [h18, hI.2.1.2.2.2.2 (tso_lt (b := b) (by rw [y1]; decide))]
    exact ⟨y1, y2⟩
theorem pasY (hT : TXM g1 b c) (hI : MI g1 g b c q node n nw nd wi sn ns code cm op) (hy : tso b c q = 3 ∧ tva b c q = 59) (hk : ∀ g, MI g1 g b c (tnx b c q) node n nw nd wi sn ns code cm op → R none g) : Ex MX9_passes (d + 3) [.inr 476, .inl (jb (jI g 476 18 = 3 ∧ jI g 476 19 = 59))] g 0 0 R := by
  have e : jb (jI g 476 18 = 3 ∧ jI g 476 19 = 59) = 1 := by unfold jb; rw [if_pos (hI.tk.mpr hy)]
  rw [e]
  refine Ex.mono (eX9_passes_y (hI.txm hT) hI.2.1 hI.2.2.1 (by decide)) ?_
  rintro r g2 ⟨rfl, f2, hq⟩
  exact hk g2 (hI.nf f2 hq)
theorem pasN (hT : TXM g1 b c) (hI : MI g1 g b c q node n nw nd wi sn ns code cm op) (hy : ¬ (tso b c q = 3 ∧ tva b c q = 59)) (hk : ∀ g, FI g1 g q → R none g) : Ex MX9_passes (d + 3) [.inr 476, .inl (jb (jI g 476 18 = 3 ∧ jI g 476 19 = 59))] g 0 0 R := by
  have e : jb (jI g 476 18 = 3 ∧ jI g 476 19 = 59) = 0 := by unfold jb; rw [if_neg (fun z => hy (hI.tk.mp z))]
  rw [e]
  refine Ex.mono (eX9_passes_n (hI.txm hT).1 hI.2.2.1 (by rw [hI.2.1.2.2.1]; omega)) ?_
  rintro r g2 ⟨rfl, rfl⟩
  exact hk _ hI.flt
theorem pasF {x : Int} (hT : TXM g1 b c) (hF : FI g1 g f) (hk : ∀ g, FI g1 g f → R none g) : Ex MX9_passes (d + 3) [.inr 476, .inl x] g 0 0 R := by
  refine Ex.mono (eX9_passes_f (hF.mk hT) hF.ne) ?_
  rintro r g2 ⟨rfl, rfl⟩
  exact hk _ hF
def IPost (h : jH) (D : Nat) (b : Nat → Int) (c p : Nat) (node : Nat → Int) (n nw nd : Nat) (wi sn : Nat → Int) (ns : Nat) (code cm : Nat → Int) (op : Int) (r : Option jA) (g : jH) : Prop :=
  (r = some (.inl 1) ∧ ∃ (q n' nw' nd' ns' : Nat) (node' wi' sn' code' cm' : Nat → Int) (op' : Int), CI g D b c q node' n' nw' nd' wi' sn' ns' code' cm' op' ∧ IFr D h g ∧ p < q ∧
    ∀ (d : Nat) (g1 : jH) (R : Option jA → jH → Prop), TXM g1 b c → (∀ g', MI g1 g' b c q node' n' nw' nd' wi' sn' ns' code' cm' op' → R none g') → ∀ g', MI g1 g' b c p node n nw nd wi sn ns code cm op → Ex MX9_readsItem (d + 8) [.inr 476] g' 0 0 R) ∨
  (r = some (.inl 0) ∧ ∃ f : Nat, IFr D h g ∧ (jI g 3 2 = (f : Int) ∧ f ≤ c) ∧ ∀ (d : Nat) (g1 : jH) (R : Option jA → jH → Prop), TXM g1 b c → (∀ g', FI g1 g' f → R none g') → ∀ g', MI g1 g' b c p node n nw nd wi sn ns code cm op → Ex MX9_readsItem (d + 8) [.inr 476] g' 0 0 R)
theorem eX5_readItem (hC : CI h D b c p node n nw nd wi sn ns code cm op) (hp : p < c) : Ex MX5_readItem (d + 13 + 10) [.inr 49] h 0 0 (IPost h D b c p node n nw nd wi sn ns code cm op) := by
  -- operands and marks from none
  have hC0 : CI (jsI (jsI h 49 3 0) 49 4 0) D b c p node n nw nd wi sn ns code cm op := by
    obtain ⟨c1, c2, c3, c4, c5, c6, c7, c8, c9, c10⟩ := hC
    have e3 : ∀ k, jI (jsI (jsI h 49 3 0) 49 4 0) 3 k = jI h 3 k := fun k => by rw [jI_sI, if_neg (by omega), jI_sI, if_neg (by omega)]
    have eD : jI (jsI (jsI h 49 3 0) 49 4 0) D = jI h D := funext fun k => by rw [jI_sI, if_neg (by omega), jI_sI, if_neg (by omega)]
    refine ⟨c1, ⟨c2.1, c2.2.1, c2.2.2.1, by rw [e3]; exact c2.2.2.2.1, c2.2.2.2.2⟩, ⟨c3.1, by rw [e3]; exact c3.2.1, by rw [e3]; exact c3.2.2.1, by rw [e3]; exact c3.2.2.2⟩, c4, c5, c6, ?_, c8, by rw [jI_sI, if_neg (by omega), jI_sI, if_neg (by omega)]; exact c9, c10⟩
    unfold DRep
    rw [eD]
    exact c7
  have fr0 : IFr D h (jsI (jsI h 49 3 0) 49 4 0) := IFr.s49.trans IFr.s49
  have z3 : jI (jsI (jsI h 49 3 0) 49 4 0) 49 3 = 0 := by rw [jI_sI, if_neg (by omega), jI_sI, if_pos ⟨rfl, rfl⟩]
  have z4 : jI (jsI (jsI h 49 3 0) 49 4 0) 49 4 = 0 := by rw [jI_sI, if_pos ⟨rfl, rfl⟩]
  obtain ⟨c1, c2, c3, c4, c5, c6, c7, c8, c9, c10⟩ := id hC0
  have esg : jI (jsI (jsI h 49 3 0) 49 4 0) (jP h 49 0) 4 = tsg b c p := by rw [hC.1.2.1]; exact c3.2.2.2
  have l59 : ∀ q, tsg b c q = 59 ↔ (tso b c q = 3 ∧ tva b c q = 59) := fun q => lk_s (by unfold sgn; omega)
  have l91 := lk_s (b := b) (c := c) (p := p) (x := 91) (by unfold sgn; omega)
  have l93 := lk_s (b := b) (c := c) (p := p) (x := 93) (by unfold sgn; omega)
  -- behind [, ] or a signal
  have tail : ∀ (M : jM) (e : Nat) (pc : Nat) (r : Option jA) (g : jH),
      (∀ (d : Nat) (R : Option jA → jH → Prop) (x : Int) (h : jH), (jS h 49).1 = 5 → (x = 0 → R (some (.inl 0)) h) → (x ≠ 0 → Ex MX5_readSign (d + 1) [.inr 49, .inl 59] h 0 0 (fun v h2 => V MX5_readItem (d + 10) 65 [some (.inr 49), some (.inl x)] (v.toList ++ []) h2 0 0 R)) → V MX5_readItem (d + 10) pc [some (.inr 49), none] [.inl x] h 0 0 R) →
      (∀ (d : Nat) (g1 g' : jH) (R : Option jA → jH → Prop), TXM g1 b c → MI g1 g' b c p node n nw nd wi sn ns code cm op → Ex M (d + e) [.inr 476] g' 0 0 (fun v h2 => v = none ∧ Ex MX9_passes (d + 3) [.inr 476, .inl (jb (jI h2 476 18 = 3 ∧ jI h2 476 19 = 59))] h2 0 0 (fun v2 h3 => v2 = none ∧ R none h3) ∧ MK h2) → Ex MX9_readsItem (d + 8) [.inr 476] g' 0 0 R) →
      SPost M e (jsI (jsI h 49 3 0) 49 4 0) D b c p node n nw nd wi sn ns code cm op r g → V MX5_readItem (d + 13 + 10) pc [some (.inr 49), none] (r.toList ++ []) g 0 0 (IPost h D b c p node n nw nd wi sn ns code cm op) := by
    intro M e pc r g hpc hM9 hpost
    rcases hpost with ⟨rfl, q, n', nw', nd', ns', node', wi', sn', code', cm', op', hCq, fr, hpq, hmod⟩ | ⟨rfl, f, fr, hf, hmod⟩
    · refine hpc (d + 13) _ 1 g hCq.1.1 (fun z => absurd z (by decide)) (fun _ => ?_)
      refine Ex.mono (eX5_readSign (x := 59) hCq.1 hCq.2.1 hCq.2.2.1 (by unfold sgn; omega)) ?_
      rintro r g2 (⟨y, rfl, f2, hp2⟩ | ⟨y, rfl, rfl⟩)
      · have yy := (l59 q).mp y
        have hlt : q < c := tso_lt (b := b) (by rw [yy.1]; decide)
        have hnq := (tnx_b (b := b) (c := c) hCq.2.2.1.1).2 hlt
        apply bX5_readItem_65
        case q1 => intro z; exact absurd z (by decide)
        case q2 =>
          intro _
          refine Or.inl ⟨rfl, tnx b c q, n', nw', nd', ns', node', wi', sn', code', cm', op', hCq.tf f2 hp2, (fr0.trans fr).trans f2.ifr, by omega, fun d' g1 R hT hk g' hI => hM9 d' g1 g' R hT hI ?_⟩
          refine hmod d' g1 _ hT (fun g3 hI3 => ⟨rfl, pasY hT hI3 yy (fun g9 h9 => ⟨rfl, hk g9 h9⟩), (hI3.txm hT).1⟩) (fun z => absurd yy z) g' hI
      · apply bX5_readItem_65
        case q2 => intro z; exact absurd rfl z
        case q1 =>
          intro _
          have yn : ¬ (tso b c q = 3 ∧ tva b c q = 59) := fun z => y ((l59 q).mpr z)
          refine Or.inr ⟨rfl, q, fr0.trans fr, ⟨hCq.2.2.1.2.1, hCq.2.2.1.1⟩, fun d' g1 R hT hk g' hI => hM9 d' g1 g' R hT hI ?_⟩
          exact hmod d' g1 _ hT (fun g3 hI3 => ⟨rfl, pasN hT hI3 yn (fun g9 h9 => ⟨rfl, hk g9 h9⟩), (hI3.txm hT).1⟩) (fun _ g3 hF3 => ⟨rfl, pasF hT hF3 (fun g9 h9 => ⟨rfl, hk g9 h9⟩), hF3.mk hT⟩) g' hI
    · refine hpc (d + 13) _ 0 g ?_ (fun _ => ?_) (fun z => absurd rfl z)
      · rw [fr.2.1]; exact c1.1
      · refine Or.inr ⟨rfl, f, fr0.trans fr, hf, fun d' g1 R hT hk g' hI => hM9 d' g1 g' R hT hI ?_⟩
        exact hmod d' g1 _ hT (fun g3 hF3 => ⟨rfl, pasF hT hF3 (fun g9 h9 => ⟨rfl, hk g9 h9⟩), hF3.mk hT⟩) g' hI
  -- the model's three
  have m62 : ∀ (d : Nat) (R : Option jA → jH → Prop) (h : jH), R none h → V MX9_readsItem (d + 8) 62 [some (.inr 476)] [] h 0 0 R := by
    intro d R h hr
    apply bX9_readsItem_62
    exact hr
  refine Ex_of_V tX5_readItem (Nat.le_of_ble_eq_true rfl) ?_
  apply bX5_readItem_0
  case e3 =>
    rw [esg]
    intro z
    have zz := l91.mp z
    refine Ex.mono (eX5_readOpening hC0 hp) (fun r g hpost => tail MX9_opens 4 26 r g (fun d R x h s1 k1 k2 => ?_) (fun d' g1 g' R hT hI hk => ?_) hpost)
    · apply bX5_readItem_26
      case q1 => exact k1
      case e1 => exact k2
      all_goals exact s1
    · have hM := (hI.txm hT).1
      refine Ex_of_V tX9_readsItem (Nat.le_of_ble_eq_true rfl) ?_
      apply bX9_readsItem_0
      case e4 =>
        intro _
        refine Ex.mono hk ?_
        rintro v h2 ⟨rfl, hk2, hM2⟩
        apply bX9_readsItem_13
        case e1 =>
          refine Ex.mono hk2 ?_
          rintro v2 h3 ⟨rfl, hr⟩
          exact m62 d' R h3 hr
        all_goals exact hM2.x
      case e1 => rw [hI.tk]; intro y; exact absurd zz y
      case e2 => rw [hI.tk]; intro y; exact absurd zz y
      case e3 => rw [hI.tk]; intro y; exact absurd zz y
      all_goals exact hM.x
  case e2 =>
    rw [esg]
    intro _ z
    have zz := l93.mp z
    refine Ex.mono (eX5_readClosing hC0 hp) (fun r g hpost => tail MX9_closes 3 46 r g (fun d R x h s1 k1 k2 => ?_) (fun d' g1 g' R hT hI hk => ?_) hpost)
    · apply bX5_readItem_46
      case q1 => exact k1
      case e1 => exact k2
      all_goals exact s1
    · have hM := (hI.txm hT).1
      refine Ex_of_V tX9_readsItem (Nat.le_of_ble_eq_true rfl) ?_
      apply bX9_readsItem_0
      case e3 =>
        intro _ _
        refine Ex.mono hk ?_
        rintro v h2 ⟨rfl, hk2, hM2⟩
        apply bX9_readsItem_29
        case e1 =>
          refine Ex.mono hk2 ?_
          rintro v2 h3 ⟨rfl, hr⟩
          exact m62 d' R h3 hr
        all_goals exact hM2.x
      case e1 => rw [hI.tk, hI.tk]; intro _ y; exact absurd zz y
      case e2 => rw [hI.tk, hI.tk]; intro _ y; exact absurd zz y
      case e4 => rw [hI.tk]; intro y; omega
      all_goals exact hM.x
  case e1 =>
    rw [esg]
    intro z1 z2
    have n91 : ¬ (tso b c p = 3 ∧ tva b c p = 91) := fun y => z1 (l91.mpr y)
    have n93 : ¬ (tso b c p = 3 ∧ tva b c p = 93) := fun y => z2 (l93.mpr y)
    by_cases hs : tso b c p = 1
    · refine Ex.mono (eX5_readSignal hC0 z3 z4 hs) (fun r g hpost => tail MX9_readsNode 7 54 r g (fun d R x h s1 k1 k2 => ?_) (fun d' g1 g' R hT hI hk => ?_) hpost)
      · apply bX5_readItem_54
        case q1 => exact k1
        case e1 => exact k2
        all_goals exact s1
      · have hM := (hI.txm hT).1
        have h18 := hI.2.1.2.2.2.1
        refine Ex_of_V tX9_readsItem (Nat.le_of_ble_eq_true rfl) ?_
        apply bX9_readsItem_0
        case e2 =>
          intro _ _ _
          refine Ex.mono hk ?_
          rintro v h2 ⟨rfl, hk2, hM2⟩
          apply bX9_readsItem_44
          case e1 =>
            refine Ex.mono hk2 ?_
            rintro v2 h3 ⟨rfl, hr⟩
            exact m62 d' R h3 hr
          all_goals exact hM2.x
        case e1 => rw [h18]; intro _ _ y; exact absurd hs y
        case e3 => rw [hI.tk, hI.tk]; intro _ y; exact absurd y n93
        case e4 => rw [hI.tk]; intro y; exact absurd y n91
        all_goals exact hM.x
    · refine Ex_of_V tX5_readSignal (Nat.le_of_ble_eq_true rfl) ?_
      have el : jlet (jI (jsI (jsI h 49 3 0) 49 4 0) (jP (jsI (jsI h 49 3 0) 49 4 0) 49 0) 4) = -9 := by
        rw [c1.2.1, c3.2.2.2, lk_l, if_neg hs]
      apply bX5_readSignal_0
      case q1 =>
        intro _
        apply bX5_readItem_54
        case q1 =>
          intro _
          refine Or.inr ⟨rfl, p, fr0, ⟨c3.2.1, c3.1⟩, fun d' g1 R hT hk g' hI => ?_⟩
          have hM := (hI.txm hT).1
          have h18 := hI.2.1.2.2.2.1
          refine Ex_of_V tX9_readsItem (Nat.le_of_ble_eq_true rfl) ?_
          apply bX9_readsItem_0
          case e1 =>
            intro _ _ _
            refine Ex.mono (eX9_due0 hM hI.2.2.1) ?_
            rintro r g2 ⟨rfl, rfl⟩
            have hF := hI.flt
            have hM2 := hF.mk hT
            apply bX9_readsItem_52
            case e1 =>
              refine pasF hT hF (fun g9 h9 => ?_)
              exact m62 d' R g9 (hk g9 h9)
            all_goals exact hM2.x
          case e2 => rw [h18]; intro _ _ y; exact absurd y hs
          case e3 => rw [hI.tk, hI.tk]; intro _ y; exact absurd y n93
          case e4 => rw [hI.tk]; intro y; exact absurd y n91
          all_goals exact hM.x
        case e1 => intro y; exact absurd rfl y
        all_goals exact c1.1
      case q2 => rw [el]; intro y; exact absurd rfl y
      case e1 => rw [el]; intro y; exact absurd rfl y
      all_goals first
        | exact c1.1
        | (rw [c1.2.1]; exact c2.1)
        | (rw [c1.2.2]; exact c4.1)
  all_goals first
    | exact hC.1.1
    | (rw [hC.1.2.1]; exact hC.2.1.1)
    | exact c1.1
    | (rw [c1.2.1]; exact c2.1)
end NC
