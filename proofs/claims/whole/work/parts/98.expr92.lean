/-! ===== model: an expression, its steps ===== -/
section MR
variable {h g g1 : jH} {b : Nat → Int} {c : Nat} {node wi sn code cm cw ci : Nat → Int} {n nw nd ns D d p t m L f : Nat} {W : List Int} {Q : Option jA → jH → Prop}
/-- behind a fault nothing more is done -/
theorem flt27 {i1 : Int} (hT : TXM g1 b c) (hE : EF g1 nd g) (h20 : jI g 476 20 = (f : Int)) (hQ : MQF g1 nd Q f) : V MX9_readsExpression (d + 6) 27 [some (.inr 476), some (.inl i1)] [] g 0 0 Q := by
  have hM := (hE.txm hT).1
  have hne : jI g 476 20 ≠ -9 := by omega
  have fin : ∀ v : Int, Ex MX9_due d [.inr 476, .inl v] g 0 0 (fun r h2 => V MX9_readsExpression (d + 6) 161 [some (.inr 476), some (.inl i1)] (r.toList ++ []) h2 0 0 Q) := by
    intro v
    refine Ex.mono (eX9_duef hM hne) ?_
    rintro r g2 ⟨rfl, rfl⟩
    apply bX9_readsExpression_161
    exact hQ _ hE h20
  apply bX9_readsExpression_27
  case e1 => intro _ _; exact fin 0
  case e2 => intro _ _ _; exact fin 0
  case e3 => intro _ _ _; exact fin 1
  case e4 => intro z; exact absurd z hne
  case e5 => intro z; exact absurd z hne
  case e6 => intro z; exact absurd z hne
  case e7 => intro z; exact absurd z hne
  all_goals exact hM.x
theorem flt57 {i1 : Int} (hT : TXM g1 b c) (hE : EF g1 nd g) (h20 : jI g 476 20 = (f : Int)) (hQ : MQF g1 nd Q f) : V MX9_readsExpression (d + 6) 57 [some (.inr 476), some (.inl i1)] [] g 0 0 Q := by
  have hM := (hE.txm hT).1
  have hne : jI g 476 20 ≠ -9 := by omega
  apply bX9_readsExpression_57
  case k1 => intro _ _; exact flt27 hT hE h20 hQ
  all_goals first
    | exact hM.x
    | (intro z; exact absurd z hne)
    | (intro _ z; exact absurd z hne)
theorem flt44 {i1 : Int} (hT : TXM g1 b c) (hE : EF g1 nd g) (h20 : jI g 476 20 = (f : Int)) (hQ : MQF g1 nd Q f) : V MX9_readsExpression (d + 6) 44 [some (.inr 476), some (.inl i1)] [] g 0 0 Q := by
  have hM := (hE.txm hT).1
  have hne : jI g 476 20 ≠ -9 := by omega
  apply bX9_readsExpression_44
  case k1 => intro _; exact flt57 hT hE h20 hQ
  all_goals first
    | exact hM.x
    | (intro z; exact absurd z hne)
/-- behind a term -/
theorem mw44 {i1 : Int} (hT : TXM g1 b c) (h24 : jI g1 476 24 = (nd : Int)) (hnd : nd ≤ 3) (hb : bA t m L W) (hE : EXS g1 nd g b c p W t m L cw ci) (hk : MW d g1 nd b c Q p W t m L cw ci) : V MX9_readsExpression (d + 6) 44 [some (.inr 476), some (.inl i1)] [] g 0 0 Q := by
  have hM := (hE.1.txm hT).1
  have h20 := hE.2.2.1
  apply bX9_readsExpression_44
  case k1 => intro z; exact absurd h20 z
  case e1 =>
    intro _
    refine Ex.mono (eX9_wholeTerm hT h24 hnd hb hE) ?_
    rintro r g2 ⟨rfl, hE2⟩
    exact hk g2 i1 (bA_wt W L cw ci hb) hE2
  all_goals exact hM.x
/-- a term that can't begin -/
theorem mt79f {u1 : Option jA} (hT : TXM g1 b c) (hE : EF g1 nd g) (h20 : jI g 476 20 = (f : Int)) (hQ : MQF g1 nd Q f) : V MX9_beginsTerm (d + 5) 79 [some (.inr 476), u1] [] g 0 0 (fun v g2 => V MX9_readsExpression (d + 6) 44 [some (.inr 476), some (.inl 1)] (v.toList ++ []) g2 0 0 Q) := by
  have hM := (hE.txm hT).1
  have hne : jI g 476 20 ≠ -9 := by omega
  have fin : ∀ x : Int, V MX9_beginsTerm (d + 5) 110 [some (.inr 476), u1] [.inl x, .inr 476] g 0 0 (fun v g2 => V MX9_readsExpression (d + 6) 44 [some (.inr 476), some (.inl 1)] (v.toList ++ []) g2 0 0 Q) := by
    intro x
    apply bX9_beginsTerm_110
    case e1 =>
      refine Ex.mono (eX9_duef hM hne) ?_
      rintro r g2 ⟨rfl, rfl⟩
      apply bX9_beginsTerm_113
      case q1 => intro _; exact flt44 hT hE h20 hQ
      all_goals first
        | exact hM.x
        | (intro z; exact absurd z hne)
    all_goals exact hM.x
  have f109 : V MX9_beginsTerm (d + 5) 109 [some (.inr 476), u1] [.inr 476] g 0 0 (fun v g2 => V MX9_readsExpression (d + 6) 44 [some (.inr 476), some (.inl 1)] (v.toList ++ []) g2 0 0 Q) := by
    apply bX9_beginsTerm_109
    exact fin 0
  have f96 : V MX9_beginsTerm (d + 5) 96 [some (.inr 476), u1] [.inr 476] g 0 0 (fun v g2 => V MX9_readsExpression (d + 6) 44 [some (.inr 476), some (.inl 1)] (v.toList ++ []) g2 0 0 Q) := by
    apply bX9_beginsTerm_96
    case k1 => intro _; exact f109
    case k2 => intro _; exact fin 1
    all_goals exact hM.x
  apply bX9_beginsTerm_79
  case k1 => intro _; exact f96
  case k2 => intro _ _; exact f109
  case k3 => intro _ _; exact f96
  all_goals exact hM.x
theorem EXS.flt {v : Int} (hE : EXS g1 nd g b c p W t m L cw ci) : EF g1 nd (jsI g 476 20 v) ∧ jI (jsI g 476 20 v) 476 20 = v :=
  ⟨hE.1.sI (by unfold FEx; omega), by rw [jI_sI, if_pos ⟨rfl, rfl⟩]⟩
theorem EXS.val (hE : EXS g1 nd g b c p W t m L cw ci) (hs : tso b c p ≠ 4) : jI g 476 19 = tva b c p := hE.2.1.2.2.2.2 (tso_lt hs)
/-- a mark begins the term -/
theorem mt27 {u1 : Option jA} (hT : TXM g1 b c) (hE : EXS g1 nd g b c p W t m L cw ci) (hb : bBT t m L W) (hs : tso b c p = 3)
    (k1 : m < 6 → MT d g1 nd b c Q (tnx b c p) (tva b c p :: W) t (m + 1) L cw ci) (k2 : 6 ≤ m → MQF g1 nd Q p) :
    V MX9_beginsTerm (d + 5) 27 [some (.inr 476), u1] [] g 0 0 (fun v g2 => V MX9_readsExpression (d + 6) 44 [some (.inr 476), some (.inl 1)] (v.toList ++ []) g2 0 0 Q) := by
  have hM := (hE.1.txm hT).1
  have h20 := hE.2.2.1
  have h35 := hE.2.2.2.2.2.2.1
  have h17 := hE.2.1.2.2.1
  obtain ⟨b1, b2, b3, b4⟩ := hb
  apply bX9_beginsTerm_27
  case k1 =>
    rw [h35]
    intro z
    apply bX9_beginsTerm_42
    case e1 =>
      refine Ex.mono (eX9_due0 hM h20) ?_
      rintro r g2 ⟨rfl, rfl⟩
      obtain ⟨f1, f2⟩ := hE.flt (v := jI g 476 17)
      have f2' : jI (jsI g 476 20 (jI g 476 17)) 476 20 = (p : Int) := f2.trans h17
      have hM2 := (f1.txm hT).1
      apply bX9_beginsTerm_45
      case k1 =>
        intro _
        apply bX9_beginsTerm_0
        case k1 => intro _; exact mt79f hT f1 f2' (k2 (by omega))
        all_goals first
          | exact hM2.x
          | (rw [f2']; intro y; omega)
      all_goals first
        | exact hM2.x
        | (rw [f2']; intro y; omega)
    all_goals exact hM.x
  case k2 =>
    rw [h35]
    intro z
    apply bX9_beginsTerm_42
    case e1 =>
      refine Ex.mono (eX9_due1 hM) ?_
      rintro r g2 ⟨rfl, rfl⟩
      apply bX9_beginsTerm_45
      case k1 => intro y; exact absurd h20 y
      case r1 => rw [h35]; intro _; exact ⟨by omega, by omega⟩
      case e1 =>
        intro _
        rw [h35, hE.val (by omega)]
        have hE2 := hE.m1
        refine Ex.mono (eX9_waitsFor (x := tva b c p) hT (by omega) hE2) ?_
        rintro r g3 ⟨rfl, hE3⟩
        have hM3 := (hE3.1.txm hT).1
        apply bX9_beginsTerm_72
        case e1 =>
          refine Ex.mono (eX9_next (hE3.1.txm hT) (ten_b hE3.2.1.1).1 hE3.2.1.2.1) ?_
          rintro r g4 ⟨rfl, f4, hq⟩
          apply bX9_beginsTerm_76
          exact k1 (by omega) g4 u1 ⟨b1, by omega, by show W.length + 1 ≤ _; omega, by show L + (W.length + 1) ≤ _; omega⟩ (hE3.nx f4 hq)
        all_goals exact hM3.x
      all_goals exact hM.x
    all_goals exact hM.x
  all_goals exact hM.x
theorem MT_mark (hT : TXM g1 b c) (hs : tso b c p = 3) (hv : tva b c p = 33 ∨ tva b c p = 40)
    (k1 : m < 6 → MT d g1 nd b c Q (tnx b c p) (tva b c p :: W) t (m + 1) L cw ci) (k2 : 6 ≤ m → MQF g1 nd Q p) : MT d g1 nd b c Q p W t m L cw ci := by
  intro g u1 hb hE
  have hM := (hE.1.txm hT).1
  have h20 := hE.2.2.1
  have h18 := hE.2.1.2.2.2.1
  have h19 := hE.val (by omega)
  apply bX9_beginsTerm_0
  case k1 => intro z; exact absurd h20 z
  case k2 => intro _ _; exact mt27 hT hE hb hs k1 k2
  case k4 => intro _ _ _; exact mt27 hT hE hb hs k1 k2
  case k3 => rw [h18, h19, hs]; intro _ y y2; exact (hv.elim (fun z => y ⟨rfl, z⟩) (fun z => y2 ⟨rfl, z⟩)).elim
  all_goals exact hM.x
/-- what is no mark -/
theorem mt0 {u1 : Option jA} (hT : TXM g1 b c) (hE : EXS g1 nd g b c p W t m L cw ci) (hn : ¬ (tso b c p = 3 ∧ (tva b c p = 33 ∨ tva b c p = 40)))
    (k : V MX9_beginsTerm (d + 5) 79 [some (.inr 476), u1] [] g 0 0 (fun v g2 => V MX9_readsExpression (d + 6) 44 [some (.inr 476), some (.inl 1)] (v.toList ++ []) g2 0 0 Q)) :
    V MX9_beginsTerm (d + 5) 0 [some (.inr 476), u1] [] g 0 0 (fun v g2 => V MX9_readsExpression (d + 6) 44 [some (.inr 476), some (.inl 1)] (v.toList ++ []) g2 0 0 Q) := by
  have hM := (hE.1.txm hT).1
  have h20 := hE.2.2.1
  have h18 := hE.2.1.2.2.2.1
  have nm : ∀ x : Int, (x = 33 ∨ x = 40) → ¬ (jI g 476 18 = 3 ∧ jI g 476 19 = x) := by
    rintro x hx ⟨y1, y2⟩
    rw [h18] at y1
    rw [hE.val (by omega)] at y2
    exact hn ⟨y1, by omega⟩
  apply bX9_beginsTerm_0
  case k1 => intro _; exact k
  case k2 => intro _ z; exact absurd z (nm 33 (Or.inl rfl))
  case k4 => intro _ _ z; exact absurd z (nm 40 (Or.inr rfl))
  case k3 => intro _ _ _; exact k
  all_goals exact hM.x
/-- an operand may stand there -/
theorem mt96 {u1 : Option jA} (hT : TXM g1 b c) (hE : EXS g1 nd g b c p W t m L cw ci) (ht : t < 6)
    (k : V MX9_beginsTerm (d + 5) 113 [some (.inr 476), u1] [] g 0 0 (fun v g2 => V MX9_readsExpression (d + 6) 44 [some (.inr 476), some (.inl 1)] (v.toList ++ []) g2 0 0 Q)) :
    V MX9_beginsTerm (d + 5) 96 [some (.inr 476), u1] [.inr 476] g 0 0 (fun v g2 => V MX9_readsExpression (d + 6) 44 [some (.inr 476), some (.inl 1)] (v.toList ++ []) g2 0 0 Q) := by
  have hM := (hE.1.txm hT).1
  have h34 := hE.2.2.2.2.2.1
  apply bX9_beginsTerm_96
  case k1 => rw [h34]; intro z; omega
  case k2 =>
    intro _
    apply bX9_beginsTerm_110
    case e1 =>
      refine Ex.mono (eX9_due1 hM) ?_
      rintro r g2 ⟨rfl, rfl⟩
      exact k
    all_goals exact hM.x
  all_goals exact hM.x
theorem MT_num (hT : TXM g1 b c) (h24 : jI g1 476 24 = (nd : Int)) (hnd : nd ≤ 3) (hs : tso b c p = 2) (ht : t < 6)
    (k : MW d g1 nd b c Q (tnx b c p) W (t + 1) m (L + 1) (up cw L 0) (up ci L (tva b c p))) : MT d g1 nd b c Q p W t m L cw ci := by
  intro g u1 hb hE
  have hM := (hE.1.txm hT).1
  have h20 := hE.2.2.1
  have h18 := hE.2.1.2.2.2.1
  have h34 := hE.2.2.2.2.2.1
  obtain ⟨b1, b2, b3, b4⟩ := hb
  refine mt0 hT hE (fun y => by omega) ?_
  apply bX9_beginsTerm_79
  case k2 => rw [h18]; intro z; exact absurd hs z
  case k3 => rw [h18]; intro z; exact absurd hs z
  case k1 =>
    intro _
    refine mt96 hT hE ht ?_
    apply bX9_beginsTerm_113
    case r1 => rw [h34]; intro _; exact ⟨by omega, by omega⟩
    case q1 => intro z; exact absurd h20 z
    case e1 => rw [h18]; intro _ z; exact absurd hs z
    case e2 =>
      intro _ _
      rw [h34, hE.val (by omega)]
      refine Ex.mono (eX9_emits (k := 0) (v := tva b c p) hT h24 hnd (by omega) hE.t1) ?_
      rintro r g2 ⟨rfl, hE2⟩
      have hM2 := (hE2.1.txm hT).1
      apply bX9_beginsTerm_150
      case e1 =>
        refine Ex.mono (eX9_next (hE2.1.txm hT) (ten_b hE2.2.1.1).1 hE2.2.1.2.1) ?_
        rintro r g3 ⟨rfl, f3, hq⟩
        have hE3 := hE2.nx f3 hq
        apply bX9_beginsTerm_154
        apply bX9_beginsTerm_177
        exact mw44 hT h24 hnd ⟨by omega, b2, by omega, by omega⟩ hE3 k
      all_goals exact hM2.x
    all_goals exact hM.x
  all_goals exact hM.x
theorem MT_path (hT : TXM g1 b c) (h24 : jI g1 476 24 = (nd : Int)) (hnd : nd ≤ 3) (hN : NDR g1 node n wi sn ns) (hG : DG node n nw nd wi sn ns code cm) (hs : tso b c p = 1) (ht : t < 6)
    (k1 : (ppf node n wi sn ns b c 5 p (-9)).1 ≠ -9 → MW d g1 nd b c Q (ppf node n wi sn ns b c 5 p (-9)).2 W (t + 1) m (L + 1) (up cw L 1) (up ci L (ppf node n wi sn ns b c 5 p (-9)).1))
    (k2 : (ppf node n wi sn ns b c 5 p (-9)).1 = -9 → MQF g1 nd Q (ppf node n wi sn ns b c 5 p (-9)).2) : MT d g1 nd b c Q p W t m L cw ci := by
  intro g u1 hb hE
  have hM := (hE.1.txm hT).1
  have h20 := hE.2.2.1
  have h18 := hE.2.1.2.2.2.1
  have h34 := hE.2.2.2.2.2.1
  obtain ⟨b1, b2, b3, b4⟩ := hb
  refine mt0 hT hE (fun y => by omega) ?_
  apply bX9_beginsTerm_79
  case k1 => rw [h18]; intro z; omega
  case k2 => rw [h18]; intro _ z; exact absurd hs z
  case k3 =>
    intro _ _
    refine mt96 hT hE ht ?_
    apply bX9_beginsTerm_113
    case r1 => rw [h34]; intro _; exact ⟨by omega, by omega⟩
    case q1 => intro z; exact absurd h20 z
    case e2 => rw [h18]; intro _ z; omega
    case e1 =>
      intro _ _
      rw [h34]
      have hE1 := hE.t1
      refine Ex.mono (eX9_readsPath (hE1.1.txm hT) hE1.2.1 hE1.2.2.1 (hE1.1.ndr hN) hG) ?_
      rintro r g2 ⟨f2, (⟨y1, rfl, hq, h202⟩ | ⟨y1, ⟨z, rfl⟩, h202⟩)⟩
      · have hE2 : EXS g1 nd g2 b c (ppf node n wi sn ns b c 5 p (-9)).2 W (t + 1) m L cw ci := by
          obtain ⟨e1, e2, e3, e4, e5, e6, e7, e8⟩ := hE1
          have e : ∀ k, 20 < k → jI g2 476 k = jI (jsI g 476 34 ((t : Int) + 1)) 476 k := fun k hk => f2.2.2.2.2.2.2 k (by unfold nuE; omega)
          have x : ∀ a, jX g2 a = jX (jsI g 476 34 ((t : Int) + 1)) a := fun a => f2.2.2.2.2.1 a (by unfold nuP; exact id)
          refine ⟨e1.nu f2, hq, h202, by rw [e 33 (by omega)]; exact e4, e5.eq (x 492), by rw [e 34 (by omega)]; exact e6, by rw [e 35 (by omega)]; exact e7, ?_⟩
          unfold CDR
          rw [x 490, x 491]
          exact e8
        have hM2 := (hE2.1.txm hT).1
        apply bX9_beginsTerm_161
        case k1 => intro y; exact absurd h202 y
        case e1 =>
          intro _
          refine Ex.mono (eX9_emits (k := 1) hT h24 hnd (by omega) hE2) ?_
          rintro r g3 ⟨rfl, hE3⟩
          apply bX9_beginsTerm_177
          exact mw44 hT h24 hnd ⟨by omega, b2, by omega, by omega⟩ hE3 (k1 y1)
        all_goals exact hM2.x
      · have f3 : EF g1 nd g2 := hE1.1.nu f2
        have hM2 := (f3.txm hT).1
        apply bX9_beginsTerm_161
        case k1 =>
          intro _
          apply bX9_beginsTerm_177
          exact flt44 hT f3 h202 (k2 y1)
        case e1 => rw [h202]; intro y; omega
        all_goals exact hM2.x
    all_goals exact hM.x
  all_goals exact hM.x
theorem MT_bad (hT : TXM g1 b c) (hn : ¬ (tso b c p = 3 ∧ (tva b c p = 33 ∨ tva b c p = 40))) (hs : (tso b c p ≠ 2 ∧ tso b c p ≠ 1) ∨ 6 ≤ t) (k : MQF g1 nd Q p) : MT d g1 nd b c Q p W t m L cw ci := by
  intro g u1 hb hE
  have hM := (hE.1.txm hT).1
  have h20 := hE.2.2.1
  have h18 := hE.2.1.2.2.2.1
  have h34 := hE.2.2.2.2.2.1
  have h17 := hE.2.1.2.2.1
  refine mt0 hT hE hn ?_
  have f109 : V MX9_beginsTerm (d + 5) 109 [some (.inr 476), u1] [.inr 476] g 0 0 (fun v g2 => V MX9_readsExpression (d + 6) 44 [some (.inr 476), some (.inl 1)] (v.toList ++ []) g2 0 0 Q) := by
    apply bX9_beginsTerm_109
    apply bX9_beginsTerm_110
    case e1 =>
      refine Ex.mono (eX9_due0 hM h20) ?_
      rintro r g2 ⟨rfl, rfl⟩
      obtain ⟨f1, f2⟩ := hE.flt (v := jI g 476 17)
      have f2' : jI (jsI g 476 20 (jI g 476 17)) 476 20 = (p : Int) := f2.trans h17
      have hM2 := (f1.txm hT).1
      apply bX9_beginsTerm_113
      case q1 => intro _; exact flt44 hT f1 f2' k
      all_goals first
        | exact hM2.x
        | (rw [f2']; intro y; omega)
    all_goals exact hM.x
  have f96 : 6 ≤ t → V MX9_beginsTerm (d + 5) 96 [some (.inr 476), u1] [.inr 476] g 0 0 (fun v g2 => V MX9_readsExpression (d + 6) 44 [some (.inr 476), some (.inl 1)] (v.toList ++ []) g2 0 0 Q) := by
    intro ht
    apply bX9_beginsTerm_96
    case k1 => intro _; exact f109
    case k2 => rw [h34]; intro z; omega
    all_goals exact hM.x
  apply bX9_beginsTerm_79
  case k1 => rw [h18]; intro z; exact f96 (by omega)
  case k2 => intro _ _; exact f109
  case k3 => rw [h18]; intro _ z; exact f96 (by omega)
  all_goals exact hM.x
/-- a closing bracket -/
theorem MA_close {x : Int} (hT : TXM g1 b c) (h24 : jI g1 476 24 = (nd : Int)) (hnd : nd ≤ 3) (hs : tso b c p = 3) (hv : tva b c p = 41) (k : MW d g1 nd b c Q (tnx b c p) W t m L cw ci) : MA d g1 nd b c Q p (x :: W) t m L cw ci := by
  intro g i1 hb hE
  have hM := (hE.1.txm hT).1
  have h20 := hE.2.2.1
  have h18 := hE.2.1.2.2.2.1
  have h19 := hE.val (by omega)
  have elen : (x :: W).length = W.length + 1 := rfl
  have e33 : jI g 476 33 = (W.length : Int) + 1 := by have := hE.2.2.2.1; rw [elen] at this; omega
  obtain ⟨b1, b2, b3, b4⟩ := hb
  rw [elen] at b3 b4
  have hb' : bA t m L W := ⟨b1, b2, by omega, by omega⟩
  apply bX9_readsExpression_57
  case e4 =>
    intro _ _ _
    rw [e33, Int.add_sub_cancel]
    refine Ex.mono (eX9_wholeTerm hT h24 hnd hb' hE.pop) ?_
    rintro r g2 ⟨rfl, hE2⟩
    have hM2 := (hE2.1.txm hT).1
    apply bX9_readsExpression_96
    case e1 =>
      refine Ex.mono (eX9_next (hE2.1.txm hT) (ten_b hE2.2.1.1).1 hE2.2.1.2.1) ?_
      rintro r g3 ⟨rfl, f3, hq⟩
      apply bX9_readsExpression_100
      exact k g3 i1 (bA_wt W L cw ci hb') (hE2.nx f3 hq)
    all_goals exact hM2.x
  case r1 => rw [e33]; intros; exact ⟨by omega, by omega⟩
  all_goals first
    | exact hM.x
    | (intro z; exact absurd h20 z)
    | (rw [h18, h19]; intro _ z; exact absurd ⟨hs, hv⟩ z)
    | (rw [e33]; intro _ _ z; omega)
def isop (x : Int) : Prop := x = 38 ∨ x = 124 ∨ x = 94 ∨ x = 43 ∨ x = 45
/-- a sign between two terms -/
theorem MA_op (hT : TXM g1 b c) (hs : tso b c p = 3) (hv : isop (tva b c p)) (k : MT d g1 nd b c Q (tnx b c p) (tva b c p :: W) t m L cw ci) : MA d g1 nd b c Q p W t m L cw ci := by
  intro g i1 hb hE
  have hM := (hE.1.txm hT).1
  have h20 := hE.2.2.1
  have h18 := hE.2.1.2.2.2.1
  have h19 := hE.val (by omega)
  obtain ⟨b1, b2, b3, b4⟩ := hb
  have ho : jI g 476 18 = 3 ∧ (jI g 476 19 = 38 ∨ jI g 476 19 = 124 ∨ jI g 476 19 = 94 ∨ jI g 476 19 = 43 ∨ jI g 476 19 = 45) := by rw [h18, h19]; exact ⟨hs, hv⟩
  have ej : jb (jI g 476 18 = 3 ∧ (jI g 476 19 = 38 ∨ jI g 476 19 = 124 ∨ jI g 476 19 = 94 ∨ jI g 476 19 = 43 ∨ jI g 476 19 = 45)) = 1 := by unfold jb; rw [if_pos ho]
  have go : Ex MX9_waitsFor d [.inr 476, .inl (jI g 476 19)] g 0 0 (fun v h2 => V MX9_readsExpression (d + 6) 129 [some (.inr 476), some (.inl (jb (jI g 476 18 = 3 ∧ (jI g 476 19 = 38 ∨ jI g 476 19 = 124 ∨ jI g 476 19 = 94 ∨ jI g 476 19 = 43 ∨ jI g 476 19 = 45))))] (v.toList ++ []) h2 0 0 Q) := by
    rw [ej, h19]
    refine Ex.mono (eX9_waitsFor (x := tva b c p) hT (by omega) hE) ?_
    rintro r g2 ⟨rfl, hE2⟩
    have hM2 := (hE2.1.txm hT).1
    apply bX9_readsExpression_129
    case e1 =>
      refine Ex.mono (eX9_next (hE2.1.txm hT) (ten_b hE2.2.1.1).1 hE2.2.1.2.1) ?_
      rintro r g3 ⟨rfl, f3, hq⟩
      have hE3 := hE2.nx f3 hq
      have hM3 := (hE3.1.txm hT).1
      apply bX9_readsExpression_133
      apply bX9_readsExpression_27
      case e7 =>
        intro _ _
        refine Ex_of_V tX9_beginsTerm (Nat.le_of_ble_eq_true rfl) ?_
        exact k g3 _ ⟨b1, b2, by show W.length + 1 ≤ _; omega, by show L + (W.length + 1) ≤ _; omega⟩ hE3
      all_goals first
        | exact hM3.x
        | (intro z; exact absurd hE3.2.2.1 z)
        | (intro _ z; exact absurd z (by decide))
    all_goals exact hM2.x
  have nc : ¬ (jI g 476 18 = 3 ∧ jI g 476 19 = 41) := by
    rw [h18, h19]
    intro y
    unfold isop at hv
    omega
  apply bX9_readsExpression_57
  case e2 => intro _ _ _ _; exact go
  all_goals first
    | exact hM.x
    | (intro z; exact absurd h20 z)
    | (intro _ z; exact absurd z nc)
    | (intro _ _ z; exact absurd h20 z)
    | (intro _ _ _ z; exact absurd ho z)
/-- the end of the expression -/
theorem MA_end (hT : TXM g1 b c) (hno : ¬ (tso b c p = 3 ∧ isop (tva b c p))) (hnc : W = [] ∨ ¬ (tso b c p = 3 ∧ tva b c p = 41))
    (k1 : W = [] → tso b c p = 3 → tva b c p = 59 → ∀ g, EXS g1 nd g b c p W t m L cw ci → Q none g) (k2 : ¬ (W = [] ∧ tso b c p = 3 ∧ tva b c p = 59) → MQF g1 nd Q p) : MA d g1 nd b c Q p W t m L cw ci := by
  intro g i1 hb hE
  have hM := (hE.1.txm hT).1
  have h20 := hE.2.2.1
  have h18 := hE.2.1.2.2.2.1
  have h17 := hE.2.1.2.2.1
  have h33 := hE.2.2.2.1
  have no : ¬ (jI g 476 18 = 3 ∧ (jI g 476 19 = 38 ∨ jI g 476 19 = 124 ∨ jI g 476 19 = 94 ∨ jI g 476 19 = 43 ∨ jI g 476 19 = 45)) := by
    rintro ⟨y1, y2⟩
    rw [h18] at y1
    rw [hE.val (by omega)] at y2
    exact hno ⟨y1, y2⟩
  have semi : (jI g 476 18 = 3 ∧ jI g 476 19 = 59) ↔ (tso b c p = 3 ∧ tva b c p = 59) := by
    constructor
    · rintro ⟨y1, y2⟩
      rw [h18] at y1
      rw [hE.val (by omega)] at y2
      exact ⟨y1, y2⟩
    · rintro ⟨y1, y2⟩
      rw [h18, hE.val (by omega)]
      exact ⟨y1, y2⟩
  have w0 : (jI g 476 33 = 0) ↔ W = [] := by
    rw [h33]
    constructor
    · intro y; exact List.eq_nil_of_length_eq_zero (by omega)
    · intro y; rw [y]; rfl
  have ej : jb (jI g 476 18 = 3 ∧ (jI g 476 19 = 38 ∨ jI g 476 19 = 124 ∨ jI g 476 19 = 94 ∨ jI g 476 19 = 43 ∨ jI g 476 19 = 45)) = 0 := by unfold jb; rw [if_neg no]
  have bad : ¬ (W = [] ∧ tso b c p = 3 ∧ tva b c p = 59) → Ex MX9_due d [.inr 476, .inl 0] g 0 0 (fun v h2 => V MX9_readsExpression (d + 6) 161 [some (.inr 476), some (.inl 0)] (v.toList ++ []) h2 0 0 Q) := by
    intro y
    refine Ex.mono (eX9_due0 hM h20) ?_
    rintro r g2 ⟨rfl, rfl⟩
    obtain ⟨f1, f2⟩ := hE.flt (v := jI g 476 17)
    apply bX9_readsExpression_161
    exact k2 y _ f1 (f2.trans h17)
  have go : V MX9_readsExpression (d + 6) 27 [some (.inr 476), some (.inl (jb (jI g 476 18 = 3 ∧ (jI g 476 19 = 38 ∨ jI g 476 19 = 124 ∨ jI g 476 19 = 94 ∨ jI g 476 19 = 43 ∨ jI g 476 19 = 45))))] [] g 0 0 Q := by
    rw [ej]
    apply bX9_readsExpression_27
    case e4 => intro _ _ z; exact bad (fun y => z (w0.mpr y.1))
    case e5 => intro _ _ _ z; exact bad (fun y => z (semi.mpr y.2))
    case e6 =>
      intro _ _ z z2
      refine Ex.mono (eX9_due1 hM) ?_
      rintro r g2 ⟨rfl, rfl⟩
      apply bX9_readsExpression_161
      exact k1 (w0.mp z) (semi.mp z2).1 (semi.mp z2).2 _ hE
    all_goals first
      | exact hM.x
      | (intro z; exact absurd h20 z)
      | (intro _ z; exact absurd rfl z)
  have nc : (jI g 476 18 = 3 ∧ jI g 476 19 = 41) → ¬ (jI g 476 33 ≤ 0) → False := by
    rintro ⟨y1, y2⟩ y3
    rw [h18] at y1
    rw [hE.val (by omega)] at y2
    rcases hnc with z | z
    · rw [h33, z] at y3; exact y3 (Int.le_refl _)
    · exact z ⟨y1, y2⟩
  apply bX9_readsExpression_57
  case k4 => intro _ _ _ _; exact go
  case k6 => intro _ _ _ _ _; exact go
  all_goals first
    | exact hM.x
    | (intro z; exact absurd h20 z)
    | (intro _ _ z; exact absurd h20 z)
    | (intro _ _ _ z; exact absurd h20 z)
    | (intro _ _ _ z; exact absurd z no)
    | (intro _ _ _ _ z; exact absurd z no)
    | (intro _ z z2; exact (nc z z2).elim)
/-- a whole expression -/
theorem eX9_readsExpression (hT : TXM g1 b c) (h24 : jI g1 476 24 = (nd : Int)) (hnd : nd ≤ 3) (hP : TXQ g1 b c p) (hf : jI g1 476 20 = -9) (k : MT d g1 nd b c Q p [] 0 0 0 cw ci) : Ex MX9_readsExpression (d + 6) [.inr 476] g1 0 0 Q := by
  have hM := hT.1
  refine Ex_of_V tX9_readsExpression (Nat.le_of_ble_eq_true rfl) ?_
  apply bX9_readsExpression_0
  case k1 =>
    rw [hM.p29, h24, Int.toNat_natCast]
    have hE : EXS g1 nd (jsX (jsI (jsI (jsI g1 476 33 0) 476 34 0) 476 35 0) 491 nd 0) b c p [] 0 0 0 cw ci := by
      have e : ∀ k, k < 33 → jI (jsX (jsI (jsI (jsI g1 476 33 0) 476 34 0) 476 35 0) 491 nd 0) 476 k = jI g1 476 k := fun k hk => by
        show jI (jsI (jsI (jsI g1 476 33 0) 476 34 0) 476 35 0) 476 k = _
        rw [jI_sI, if_neg (by omega), jI_sI, if_neg (by omega), jI_sI, if_neg (by omega)]
      refine ⟨(((EF.rf.sI (by unfold FEx; omega)).sI (by unfold FEx; omega)).sI (by unfold FEx; omega)).sX (Or.inr (Or.inl ⟨rfl, Nat.le_refl _⟩)), ⟨hP.1, by rw [e 16 (by omega)]; exact hP.2.1, by rw [e 17 (by omega)]; exact hP.2.2.1, by rw [e 18 (by omega)]; exact hP.2.2.2.1, fun q => by rw [e 19 (by omega)]; exact hP.2.2.2.2 q⟩, by rw [e 20 (by omega)]; exact hf, ?_, trivial, ?_, ?_, ?_, fun j hj => absurd hj (Nat.not_lt_zero _)⟩
      · show jI (jsI (jsI (jsI g1 476 33 0) 476 34 0) 476 35 0) 476 33 = _
        rw [jI_sI, if_neg (by omega), jI_sI, if_neg (by omega), jI_sI, if_pos ⟨rfl, rfl⟩]; rfl
      · show jI (jsI (jsI (jsI g1 476 33 0) 476 34 0) 476 35 0) 476 34 = _
        rw [jI_sI, if_neg (by omega), jI_sI, if_pos ⟨rfl, rfl⟩]; rfl
      · show jI (jsI (jsI (jsI g1 476 33 0) 476 34 0) 476 35 0) 476 35 = _
        rw [jI_sI, if_pos ⟨rfl, rfl⟩]; rfl
      · rw [jX_sX, if_pos ⟨rfl, rfl⟩]; rfl
    have hM2 := (hE.1.txm hT).1
    apply bX9_readsExpression_27
    case e7 =>
      intro _ _
      refine Ex_of_V tX9_beginsTerm (Nat.le_of_ble_eq_true rfl) ?_
      exact k _ _ ⟨by omega, by omega, by show 0 ≤ 0; omega, by show 0 + 0 ≤ _; omega⟩ hE
    all_goals first
      | exact hM2.x
      | (intro z; exact absurd hE.2.2.1 z)
      | (intro _ z; exact absurd z (by decide))
  all_goals first
    | exact hM.x
    | (rw [hM.p29, hM.s491]; done)
    | (rw [h24]; omega)
    | (rw [h24, hM.p29, hM.s491]; refine Int.lt_of_le_of_lt (b := 3) ?_ (by decide); omega)
end MR
