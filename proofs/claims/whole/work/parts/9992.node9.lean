/-! ===== node, the model ===== -/
section NI
variable {h g h0 g1 gE : jH} {b : Nat → Int} {c : Nat} {node wi sn code cm s past : Nat → Int} {n nw nd ns D d d' p u f : Nat} {x K j1 j2 j3 m : Int} {R : Option jA → jH → Prop}
def NDQ (h : jH) (z : Int × Bool) (r : Option jA) (g : jH) : Prop := r = some (.inl z.1) ∧ ∃ g0, MF nuP nuE h g0 ∧ g = if z.2 = true then jsI g0 476 15 0 else g0
/-- the model with a fault -/
theorem nd26f {i1 i2 i3 i4 : Int} {u5 : Option jA} (hT : TXM h b c) (hf : f ≤ c) (f0 : MF nuP nuE h g) (h20 : jI g 476 20 = (f : Int)) : V MX9_node (d + 4) 26 [some (.inr 476), some (.inl i1), some (.inl i2), some (.inl i3), some (.inl i4), u5] [] g 0 0 (NDQ h (-10 - (f : Int), false)) := by
  have hM : MK g := f0.mk hT.1
  have hc := hT.2.2.1.1
  have hne : jI g 476 20 ≠ -9 := by omega
  have fin : V MX9_node (d + 4) 207 [some (.inr 476), some (.inl i1), some (.inl i2), some (.inl i3), some (.inl i4), u5] [] g 0 0 (NDQ h (-10 - (f : Int), false)) := by
    apply bX9_node_207
    case q1 => intro z; exact absurd z hne
    case q2 => intro z; exact absurd z hne
    case q3 => intro _; rw [h20]; exact ⟨rfl, g, f0, rfl⟩
    case r1 => intro _; rw [h20]; exact ⟨by omega, by omega⟩
    case s1 => exact hM.x
  apply bX9_node_26
  case e1 => intro _ _; refine Ex.mono (eX9_duef hM hne) ?_; rintro r g2 ⟨rfl, rfl⟩; exact fin
  case e2 => intro _ _; refine Ex.mono (eX9_duef hM hne) ?_; rintro r g2 ⟨rfl, rfl⟩; exact fin
  all_goals first
    | exact hM.x
    | (intro z; exact absurd z hne)
theorem nd161f {i1 i2 i3 i4 i5 : Int} (hT : TXM h b c) (hf : f ≤ c) (f0 : MF nuP nuE h g) (h20 : jI g 476 20 = (f : Int)) : V MX9_node (d + 4) 161 [some (.inr 476), some (.inl i1), some (.inl i2), some (.inl i3), some (.inl i4), some (.inl i5)] [] g 0 0 (NDQ h (-10 - (f : Int), false)) := by
  have hM : MK g := f0.mk hT.1
  have hne : jI g 476 20 ≠ -9 := by omega
  apply bX9_node_161
  case k1 => intro _; exact nd26f hT hf f0 h20
  all_goals first
    | exact hM.x
    | (intro z; exact absurd z hne)
/-- behind a name -/
theorem nd161 {z : Int × Bool} {i4 i5 : Int} (hT : TXM h b c) (f0 : MF nuP nuE h g) (h20 : jI g 476 20 = -9) (hp : TXQ g b c p) (hH : (if j3 = 0 then j2 else -9) = nfd m)
    (hz : z = if tso b c p = 4 then (nfd m, true) else if tso b c p = 3 ∧ tva b c p = 46 then z else (-10 - (p : Int), false))
    (k : tso b c p = 3 ∧ tva b c p = 46 → ∀ g2, MF nuP nuE h g2 → jI g2 476 20 = -9 → TXQ g2 b c (tnx b c p) → V MX9_node (d + 4) 26 [some (.inr 476), some (.inl j1), some (.inl j2), some (.inl j3), some (.inl 1), some (.inl i5)] [] g2 0 0 (NDQ h z)) :
    V MX9_node (d + 4) 161 [some (.inr 476), some (.inl j1), some (.inl j2), some (.inl j3), some (.inl i4), some (.inl i5)] [] g 0 0 (NDQ h z) := by
  have hM : MK g := f0.mk hT.1
  have hT2 : TXM g b c := hT.mf f0 (by unfold nuP; exact id) (by unfold nuE; omega)
  have tk : (jI g 476 18 = 3 ∧ jI g 476 19 = 46) ↔ (tso b c p = 3 ∧ tva b c p = 46) := by
    rw [hp.2.2.2.1]
    constructor
    · intro y
      have : p < c := tso_lt (b := b) (by rw [y.1]; decide)
      rw [hp.2.2.2.2 this] at y
      exact y
    · intro y
      have : p < c := tso_lt (b := b) (by rw [y.1]; decide)
      rw [hp.2.2.2.2 this]
      exact y
  apply bX9_node_161
  case k1 => intro y; exact absurd h20 y
  case k2 =>
    intro _ y
    rw [jb_f y]
    have y2 : ¬ (tso b c p = 3 ∧ tva b c p = 46) := fun w => y (tk.mpr w)
    apply bX9_node_26
    case e3 =>
      rw [hp.2.2.2.1]
      intro _ _ y4
      refine Ex.mono (eX9_due0 hM h20) ?_
      rintro r g2 ⟨rfl, rfl⟩
      rw [hz, if_neg y4, if_neg y2]
      have f2 : MF nuP nuE h (jsI g 476 20 (jI g 476 17)) := f0.trans (MF.sI (by unfold nuE; omega))
      have h20' : jI (jsI g 476 20 (jI g 476 17)) 476 20 = (p : Int) := by rw [jI_sI, if_pos ⟨rfl, rfl⟩]; exact hp.2.2.1
      have hne : jI (jsI g 476 20 (jI g 476 17)) 476 20 ≠ -9 := by omega
      have hpc := hp.1
      have hc := hT.2.2.1.1
      apply bX9_node_207
      case q1 => intro w; exact absurd w hne
      case q2 => intro w; exact absurd w hne
      case q3 => intro _; rw [h20']; exact ⟨rfl, _, f2, rfl⟩
      case r1 => intro _; rw [h20']; exact ⟨by omega, by omega⟩
      case s1 => exact hM.x
    case e4 =>
      rw [hp.2.2.2.1]
      intro _ _ y4
      refine Ex.mono (eX9_due1 hM) ?_
      rintro r g2 ⟨rfl, rfl⟩
      rw [hz, if_pos y4]
      apply bX9_node_207
      case q1 => intro _ w; rw [if_pos w] at hH; rw [hH]; exact ⟨rfl, _, f0, rfl⟩
      case q2 => intro _ w; rw [if_neg w] at hH; rw [hH]; exact ⟨rfl, _, f0, rfl⟩
      case q3 => intro w; exact absurd h20 w
      case r1 => intro w; exact absurd h20 w
      case s1 => exact hM.x
    all_goals first
      | exact hM.x
      | (intro w; exact absurd h20 w)
      | (intro _ w; exact absurd rfl w)
  case e1 =>
    intro _ y
    rw [jb_t y]
    refine Ex.mono (eX9_next hT2 (ten_b hp.1).1 hp.2.1) ?_
    rintro r g2 ⟨rfl, f2, hp2⟩
    apply bX9_node_187
    exact k (tk.mp y) g2 (f0.trans (nu_wide f2)) (by rw [f2.2.2.2.2.2.2 20 (by unfold nuF; omega)]; exact h20) hp2
  all_goals exact hM.x
theorem eX9_node (hM : MD h node n nw nd wi sn ns code cm) (hG : DG node n nw nd wi sn ns code cm) (hT : TXM h b c) :
    Ex MX9_node (d + 4) [.inr 476] h 0 0 (NDQ h (ndF b c node n wi sn ns c (tsk b c 0) (-9))) := by
  have hc := hT.2.2.1
  obtain ⟨d1, d2, d3, d6, dn, dw, dsn, -, -⟩ := hM
  have loop : ∀ f p : Nat, ∀ x i1 i2 i3 : Int, ∀ g u5, p ≤ c → c ≤ p + f → ((x ≠ -2 ∧ i1 = x ∧ i2 = -9 ∧ i3 = 0) ∨ (x = -2 ∧ (i3 = 1 ∨ (i3 = 0 ∧ i2 ≠ -9)))) → MF nuP nuE h g → jI g 476 20 = -9 → TXQ g b c p → V MX9_node (d + 4) 26 [some (.inr 476), some (.inl i1), some (.inl i2), some (.inl i3), some (.inl 1), u5] [] g 0 0 (NDQ h (ndF b c node n wi sn ns f p x)) := by
    intro f
    induction f with
    | zero =>
      intro p x i1 i2 i3 g u5 hp hf hx f0 h20 hP
      have hM : MK g := f0.mk hT.1
      have e4 : tso b c p = 4 := (lk_e hc).2.mpr (by omega)
      apply bX9_node_26
      case e5 =>
        intro _ _ _
        refine Ex.mono (eX9_due0 hM h20) ?_
        rintro r g2 ⟨rfl, rfl⟩
        have f2 : MF nuP nuE h (jsI g 476 20 (jI g 476 17)) := f0.trans (MF.sI (by unfold nuE; omega))
        have h20' : jI (jsI g 476 20 (jI g 476 17)) 476 20 = (p : Int) := by rw [jI_sI, if_pos ⟨rfl, rfl⟩]; exact hP.2.2.1
        have hne : jI (jsI g 476 20 (jI g 476 17)) 476 20 ≠ -9 := by omega
        have go : ∀ a1 a2 a3 a4 a5 : Int, Ex MX9_passes (d + 3) [.inr 476, .inl 1] (jsI g 476 20 (jI g 476 17)) 0 0 (fun v h2 => V MX9_node (d + 4) 161 [some (.inr 476), some (.inl a1), some (.inl a2), some (.inl a3), some (.inl a4), some (.inl a5)] (v.toList ++ []) h2 0 0 (NDQ h (-10 - (p : Int), false))) := by
          intro a1 a2 a3 a4 a5
          refine Ex.mono (eX9_passes_f hM hne) ?_
          rintro r g2 ⟨rfl, rfl⟩
          exact nd161f hT hp f2 h20'
        apply bX9_node_57
        case e1 => intro _; exact go _ _ _ _ _
        case e4 => intro _ _ _ _ w; exact absurd rfl w
        case e5 => intro _ _ _ _ _ w; exact absurd rfl w
        case e6 => intro _ _ _ _ _ _; exact go _ _ _ _ _
        case e7 => intro _ _; exact go _ _ _ _ _
        case s1 => exact hM.x
        all_goals (clear hx; intros; exact absurd (by assumption) hne)
      case e6 => intro _ _ z; rw [hP.2.2.2.1, e4] at z; exact absurd z (by decide)
      all_goals first
        | exact hM.x
        | (intro w; exact absurd h20 w)
        | (intro _ w; exact absurd w (by decide))
    | succ f ih =>
      intro p x i1 i2 i3 g u5 hp hf hx f0 h20 hP
      have hM : MK g := f0.mk hT.1
      by_cases z1 : tso b c p = 1
      · have hpc : p < c := tso_lt (b := b) (by rw [z1]; decide)
        have hT2 : TXM g b c := hT.mf f0 (by unfold nuP; exact id) (by unfold nuE; omega)
        have e19 : jI g 476 19 = tva b c p := hP.2.2.2.2 hpc
        have hq := tnx_b (b := b) hp
        have eI : ∀ k, k < 16 → jI g 476 k = jI h 476 k := fun k hk => f0.2.2.2.2.2.2 k (by unfold nuE; omega)
        have eX : jX g = jX h := funext fun a => f0.2.2.2.2.1 a (by unfold nuP; exact id)
        have hn1 : jI g 476 1 = (n : Int) := by rw [eI 1 (by omega)]; exact d1
        have hn6 : jI g 476 6 = (ns : Int) := by rw [eI 6 (by omega)]; exact d6
        have hm := nmv_b (x := x) (c := tva b c p) hG
        have hu : ndF b c node n wi sn ns (f + 1) p x = if tso b c (tnx b c p) = 4 then (nfd (nmv node n wi sn ns x (tva b c p)), true) else
            if tso b c (tnx b c p) = 3 ∧ tva b c (tnx b c p) = 46 then ndF b c node n wi sn ns f (tnx b c (tnx b c p)) (nhm (nmv node n wi sn ns x (tva b c p))) else (-10 - ((tnx b c p : Nat) : Int), false) := by
          show (if tso b c p ≠ 1 then _ else _) = _
          rw [if_neg (fun z => z z1)]
        generalize hmm : nmv node n wi sn ns x (tva b c p) = m at hm hu
        -- behind this name
        have next : ∀ a1 a2 a3 a4 a5 : Int, ((nhm m ≠ -2 ∧ a1 = nhm m ∧ a2 = -9 ∧ a3 = 0) ∨ (nhm m = -2 ∧ (a3 = 1 ∨ (a3 = 0 ∧ a2 ≠ -9)))) → (if a3 = 0 then a2 else -9) = nfd m → Ex MX9_passes (d + 3) [.inr 476, .inl 1] g 0 0 (fun v h2 => V MX9_node (d + 4) 161 [some (.inr 476), some (.inl a1), some (.inl a2), some (.inl a3), some (.inl a4), some (.inl a5)] (v.toList ++ []) h2 0 0 (NDQ h (ndF b c node n wi sn ns (f + 1) p x))) := by
          intro a1 a2 a3 a4 a5 w1 w2
          refine Ex.mono (eX9_passes_y hT2 hP h20 (by decide)) ?_
          rintro r g3 ⟨rfl, f3, hp3⟩
          refine nd161 (p := tnx b c p) hT (f0.trans (nu_wide f3)) (by rw [f3.2.2.2.2.2.2 20 (by unfold nuF; omega)]; exact h20) hp3 w2 ?_ ?_
          · rw [hu]
            split
            · rfl
            · split
              · rfl
              · rfl
          · intro y g4 f4 e4 hp4
            have e : ndF b c node n wi sn ns (f + 1) p x = ndF b c node n wi sn ns f (tnx b c (tnx b c p)) (nhm m) := by
              rw [hu, if_neg (by rw [y.1]; decide), if_pos y]
            rw [e]
            have hq2 := tnx_b (b := b) hq.1
            have : tnx b c p < c := tso_lt (b := b) (by rw [y.1]; decide)
            exact ih _ _ _ _ _ _ _ hp4.1 (by omega) w1 f4 e4 hp4
        apply bX9_node_26
        case e6 =>
          intro _ _ _
          refine Ex.mono (eX9_due1 hM) ?_
          rintro r g2 ⟨rfl, rfl⟩
          have lost : x = -2 → m = -9 := by
            intro y
            rw [← hmm, y]
            exact nmv_2 hG
          apply bX9_node_57
          case e1 =>
            intro y
            have y2 : x = -2 := by omega
            have := lost y2
            refine next _ _ _ _ _ (Or.inr ⟨by unfold nhm; rw [if_neg (by omega)], Or.inl rfl⟩) ?_
            rw [if_neg (by omega)]; unfold nfd; rw [if_pos (by omega)]; omega
          case e7 =>
            intro y y3
            have y2 : x = -2 := by omega
            have := lost y2
            refine next _ _ _ _ _ (Or.inr ⟨by unfold nhm; rw [if_neg (by omega)], Or.inl rfl⟩) ?_
            rw [if_neg (by omega)]; unfold nfd; rw [if_pos (by omega)]; omega
          case e2 =>
            intro y y3 _
            have hxx : x ≠ -2 ∧ i1 = x := by omega
            rw [e19, hxx.2]
            refine Ex.mono (eX9_nodeBy hM hn1 hG.1) ?_
            rintro r g2 ⟨⟨z, rfl, hz⟩, rfl⟩
            rw [eX, dn] at hz
            have ez := fN_u hG hz
            have bz := fN_b (node := node) (n := n) (x := x) (c := tva b c p)
            have bs := fS_b (wi := wi) (sn := sn) (ns := ns) (x := x) (c := tva b c p)
            have n12 := hG.1
            have hmv : m = nmc (fN node n x (tva b c p)) (fS wi sn ns x (tva b c p)) := hmm.symm
            apply bX9_node_100
            case s1 => exact hM.x
            case e5 =>
              intro _ _
              rw [e19]
              refine Ex.mono (eX9_scopeBy hM hn6 hG.2.2.2.1) ?_
              rintro r g2 ⟨⟨z2, rfl, hz2⟩, rfl⟩
              rw [eX, dw, dsn] at hz2
              have ez2 := fS_u hG hz2
              rw [← ez, ← ez2] at hmv
              rw [← ez] at bz
              rw [← ez2] at bs
              clear hz hz2 ez ez2 hx
              apply bX9_node_128
              case s1 => exact hM.x
              case e1 => intro w; exact absurd rfl w
              case e2 =>
                intro _ w
                have hm2 : m = z := by rw [hmv]; unfold nmc; rw [if_pos w]
                refine next _ _ _ _ _ (Or.inr ⟨by unfold nhm; rw [if_neg (by omega)], Or.inr ⟨rfl, w⟩⟩) ?_
                rw [if_pos rfl]; unfold nfd; rw [if_pos (by omega), hm2]
              case e3 =>
                intro _ w w2
                have hm2 : m = 100 + z2 := by rw [hmv]; unfold nmc; rw [if_neg (by omega), if_pos w2]
                refine next _ _ _ _ _ (Or.inl ⟨by unfold nhm; rw [if_pos (by omega)]; omega, by unfold nhm; rw [if_pos (by omega)]; omega, w, rfl⟩) ?_
                rw [if_pos rfl]; unfold nfd; rw [if_neg (by omega)]; exact w
              case e4 =>
                intro _ w w2
                have hm2 : m = -9 := by rw [hmv]; unfold nmc; rw [if_neg (by omega), if_neg (by omega)]
                refine next _ _ _ _ _ (Or.inr ⟨by unfold nhm; rw [if_neg (by omega)], Or.inl rfl⟩) ?_
                rw [if_neg (by decide)]; unfold nfd; rw [if_pos (by omega), hm2]
            all_goals first
              | (intro w; exact absurd rfl w)
              | (intro _ w; exact absurd h20 w)
          case s1 => exact hM.x
          all_goals (intro _ _ w; exact absurd h20 w)
        case e5 => intro _ _ z; rw [hP.2.2.2.1] at z; exact absurd z1 z
        all_goals first
          | exact hM.x
          | (intro w; exact absurd h20 w)
          | (intro _ w; exact absurd w (by decide))
      · have hu : ndF b c node n wi sn ns (f + 1) p x = (-10 - (p : Int), false) := by
          show (if tso b c p ≠ 1 then _ else _) = _
          rw [if_pos z1]
        rw [hu]
        apply bX9_node_26
        case e5 =>
          intro _ _ _
          refine Ex.mono (eX9_due0 hM h20) ?_
          rintro r g2 ⟨rfl, rfl⟩
          have f2 : MF nuP nuE h (jsI g 476 20 (jI g 476 17)) := f0.trans (MF.sI (by unfold nuE; omega))
          have h20' : jI (jsI g 476 20 (jI g 476 17)) 476 20 = (p : Int) := by rw [jI_sI, if_pos ⟨rfl, rfl⟩]; exact hP.2.2.1
          have hne : jI (jsI g 476 20 (jI g 476 17)) 476 20 ≠ -9 := by omega
          have go : ∀ a1 a2 a3 a4 a5 : Int, Ex MX9_passes (d + 3) [.inr 476, .inl 1] (jsI g 476 20 (jI g 476 17)) 0 0 (fun v h2 => V MX9_node (d + 4) 161 [some (.inr 476), some (.inl a1), some (.inl a2), some (.inl a3), some (.inl a4), some (.inl a5)] (v.toList ++ []) h2 0 0 (NDQ h (-10 - (p : Int), false))) := by
            intro a1 a2 a3 a4 a5
            refine Ex.mono (eX9_passes_f hM hne) ?_
            rintro r g2 ⟨rfl, rfl⟩
            exact nd161f hT hp f2 h20'
          apply bX9_node_57
          case e1 => intro _; exact go _ _ _ _ _
          case e4 => intro _ _ _ _ w; exact absurd rfl w
          case e5 => intro _ _ _ _ _ w; exact absurd rfl w
          case e6 => intro _ _ _ _ _ _; exact go _ _ _ _ _
          case e7 => intro _ _; exact go _ _ _ _ _
          case s1 => exact hM.x
          case e2 => intro _ _ w; exact absurd w hne
          case e3 => intro _ _ _ w; exact absurd w hne
        case e6 => intro _ _ z; rw [hP.2.2.2.1] at z; exact absurd z z1
        all_goals first
          | exact hM.x
          | (intro w; exact absurd h20 w)
          | (intro _ w; exact absurd w (by decide))
  refine Ex_of_V tX9_node (Nat.le_of_ble_eq_true rfl) ?_
  apply bX9_node_0
  case s1 => exact hT.1.x
  case e1 =>
    have f1 : MF nuP nuE h (jsI (jsI h 476 16 0) 476 20 (-9)) := (MF.sI (by unfold nuE; omega)).trans (MF.sI (by unfold nuE; omega))
    have hT1 : TXM (jsI (jsI h 476 16 0) 476 20 (-9)) b c := hT.mf f1 (by unfold nuP; exact id) (by unfold nuE; omega)
    refine Ex.mono (eX9_next (e := 0) hT1 (Nat.zero_le c) (by rw [jI_sI, if_neg (by omega), jI_sI, if_pos ⟨rfl, rfl⟩]; rfl)) ?_
    rintro r g2 ⟨rfl, f2, hp2⟩
    apply bX9_node_23
    refine loop c (tsk b c 0) (-9) (-9) (-9) 0 g2 _ hp2.1 (by omega) (Or.inl ⟨by decide, rfl, rfl, rfl⟩) (f1.trans (nu_wide f2)) ?_ hp2
    rw [f2.2.2.2.2.2.2 20 (by unfold nuF; omega), jI_sI, if_pos ⟨rfl, rfl⟩]
theorem pair_node (hI : IE h K) : Ex MX8_node (d + 2) [.inr 2] h 0 0 (PR MX9_node (d' + 4) [.inr 476] K) := by
  obtain ⟨D, node, n, nw, nd, wi, sn, ns, code, cm, s, past, u, hI⟩ := hI
  have hx := hI.x
  obtain ⟨c, c1, c2, c3, c4⟩ : IT h := hI.2.2.2.2.2.2.2
  obtain ⟨o, o1, o2, o3, o4⟩ : IO h := hI.2.2.2.2.2.2.1
  have hTC : TXC h (jX h 4) c := ⟨hx.t3.1, hx.t3.2.1, hx.t3.2.2, c1, ⟨c3, fun i hi => (c4 i hi).2⟩, fun i _ => rfl⟩
  have hTM : TXM h (jX h 4) c := ⟨hI.mk, c2, ⟨c3, fun i hi => (c4 i hi).2⟩, fun i hi => (c4 i hi).1.symm⟩
  refine Ex.mono (eX8_node hI hTC) ?_
  generalize hz : ndF (jX h 4) c node n wi sn ns c (tsk (jX h 4) c 0) (-9) = z
  rintro r gE ⟨rfl, g0, hF, rfl⟩
  have hI0 := hI.xf hF.xf
  have hT0 : TXM g0 (jX h 4) c := ⟨hI0.mk, by rw [hF.2.2.2.2.2.1 476 (by omega)]; exact c2, hTM.2.2.1, by rw [hF.2.2.2.2.1]; exact hTM.2.2.2⟩
  obtain ⟨z1, z2⟩ := z
  cases z2 with
  | false =>
    refine ⟨z1, rfl, hI0.mk.x, ?_⟩
    show Ex MX9_node (d' + 4) [.inr 476] g0 0 0 _
    refine Ex.mono (eX9_node hI0.md hI0.dg hT0) ?_
    rw [hz]
    rintro r gE ⟨rfl, g2, f2, rfl⟩
    exact ⟨rfl, (hI0.xf (f2.xf (fun a ha => ha.elim) (fun k hk => by unfold nuE at hk; unfold sf; omega))).ie⟩
  | true =>
    refine ⟨z1, rfl, hI0.mk.x, ?_⟩
    show Ex MX9_node (d' + 4) [.inr 476] (jsI g0 3 1 0) 0 0 _
    have hMD : MD (jsI g0 3 1 0) node n nw nd wi sn ns code cm := by
      have := hI0.md
      unfold MD at this ⊢
      rw [jI_sI, if_neg (by omega), jI_sI, if_neg (by omega), jI_sI, if_neg (by omega), jI_sI, if_neg (by omega)]
      exact this
    have hTs : TXM (jsI g0 3 1 0) (jX h 4) c := ⟨hI0.mk.fr rfl rfl, by rw [jI_sI, if_neg (by omega)]; exact hT0.2.1, hT0.2.2.1, hT0.2.2.2⟩
    refine Ex.mono (eX9_node hMD hI0.dg hTs) ?_
    rw [hz]
    rintro r gE ⟨rfl, g2, f2, rfl⟩
    refine ⟨rfl, ?_⟩
    show IE (jsI g2 476 15 0) (K + 1)
    have f1 : FP mP g0 (jsI (jsI g0 3 1 0) 476 15 0) := (FP.sI (by unfold mP; omega)).trans (FP.sI (by unfold mP; omega))
    have e0 : ∀ k, jI g0 2 k = jI h 2 k := fun k => by rw [hF.2.2.2.2.2.1 2 (by omega)]
    have hI2 : IV (jsI (jsI g0 3 1 0) 476 15 0) D node n nw nd wi sn ns code cm s past u K := by
      refine hI0.mod f1 (fun k k1 k2 => by rw [jI_sI, if_neg (by omega), jI_sI, if_neg (by omega)]) ?_ ?_
      · refine ⟨o, ?_, ?_, o3, fun i hi => ?_⟩
        · rw [jI_sI, if_neg (by omega), jI_sI, if_neg (by omega), e0]; exact o1
        · rw [jI_sI, if_neg (by omega), jI_sI, if_neg (by omega), hF.2.2.2.2.2.1 476 (by omega)]; exact o2
        · show jX g0 327 i = jX g0 503 (2 * i) ∧ jX g0 328 i = jX g0 503 (2 * i + 1) ∧ 0 ≤ jX g0 327 i ∧ jX g0 327 i ≤ 999
          rw [hF.2.2.2.2.1]; exact o4 i hi
      · exact ⟨0, by rw [jI_sI, if_neg (by omega), jI_sI, if_pos ⟨rfl, rfl⟩]; rfl, by rw [jI_sI, if_pos ⟨rfl, rfl⟩]; rfl, by omega, fun i hi => absurd hi (Nat.not_lt_zero _)⟩
    have xf : XF (jsI (jsI g0 3 1 0) 476 15 0) (jsI g2 476 15 0) := by
      refine ⟨f2.1, f2.2.1, f2.2.2.1, fun a _ => ⟨f2.2.2.2.2.1 a (by unfold nuP; exact id), by show jY g2 a = jY g0 a; rw [f2.2.2.2.1]; rfl, fun b _ _ => funext fun k => ?_⟩, fun k hk => ?_, ?_⟩
      · rw [jI_sI, if_neg (by omega), jI_sI, if_neg (by omega), f2.2.2.2.2.2.1 a b]
      · rw [jI_sI, jI_sI]
        by_cases y : k = 15
        · rw [if_pos ⟨rfl, y⟩, if_pos ⟨rfl, y⟩]
        · rw [if_neg (fun w => y w.2), if_neg (fun w => y w.2), f2.2.2.2.2.2.2 k (fun w => hk (by unfold nuE at w; unfold sf; omega))]
      · rw [jI_sI, if_neg (by omega), jI_sI, if_neg (by omega), f2.2.2.2.2.2.1 3 (by omega)]
    exact (hI2.xf xf).ie
end NI
