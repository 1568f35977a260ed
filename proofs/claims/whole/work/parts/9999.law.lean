/-! ===== the law's loop ===== -/
section NO
variable {h g h' : jH} {d d8 d9 : Nat} {K : Int} {M8 M9 : jM} {a8 a9 : List jA} {Q : Option jA → jH → Prop}
/-- the script stands as it stood -/
def jScr (h g : jH) : Prop := (jS g 1).2 = (jS h 1).2 ∧ ∀ j, j < (jS h 1).2 → jX g 1 j = jX h 1 j
theorem jscr {G : jG} {H0 H1 : Heap} {s s' : State} (h1 : jOk G h H0 H0 [] s) (h2 : jOk G h' H0 H1 [] s') : jScr h h' := by
  obtain ⟨a1, -, -, -, -, a6, a7, scr, b1, -, -, b4, b5⟩ := h1
  obtain ⟨c1, -, -, c4, -, -, -, scr', e1, -, -, e4, e5⟩ := h2
  have e0 : H1[jgb G]? = H0[jgb G]? := c4.2.1 (jgb G) (by omega) (Nat.not_le.mpr a6)
  rw [e1, b1] at e0
  obtain rfl := Option.some.inj e0
  refine ⟨by omega, fun j hj => ?_⟩
  have f1 := b5 j hj
  have f2 := e5 j (by omega)
  rw [f1] at f2
  have f3 : Int32.ofInt (jX h' 1 j) = Int32.ofInt (jX h 1 j) := (Value.int.inj (Option.some.inj f2)).symm
  exact (jR_eq (c1.2.2.1 1 j) (a1.2.2.1 1 j)).mp f3
theorem Ex.scr {M : jM} {as : List jA} {mc ms : Nat} (hE : Ex M d as h mc ms Q) : Ex M d as h mc ms (fun v g => Q v g ∧ jScr h g) := by
  intro l G p e a1 a2 a3 s m args below a4 a5 a6 a7
  obtain ⟨n, o, b1, b2, b3, ⟨v, h', c1, c2, c3, c4, c5⟩, b5⟩ := hE l G p e a1 a2 a3 s m args below a4 a5 a6 a7
  exact ⟨n, o, b1, b2, b3, ⟨v, h', c1, ⟨c2, jscr a6.2.2 c4⟩, c3, c4, c5⟩, b5⟩
theorem V_wf {M : jM} {pc mc ms : Nat} {L : List (Option jA)} {st : List jA} (hV : jWf h → V M d pc L st h mc ms Q) : V M d pc L st h mc ms Q := by
  intro p l e R s m args below meth c G MC MS Z H locs cells slots ls cx hok
  exact hV hok.1 p l e R s m args below meth c G MC MS Z H locs cells slots ls cx hok
/-- one call of the law on both sides -/
theorem law_op {pc1 pc2 : Nat} {i : Int} (hp : Ex M8 d8 a8 h 0 0 (PR M9 d9 a9 K))
    (t1 : ∀ g z, jScr h g → (jS g 476).1 = 9 → Ex M9 d9 a9 g 0 0 (fun v h2 => V ML_law d pc2 [some (.inr 1), some (.inr 2), some (.inr 476), some (.inl i)] (v.toList ++ [.inl z]) h2 0 0 Q) → V ML_law d pc1 [some (.inr 1), some (.inr 2), some (.inr 476), some (.inl i)] [.inl z] g 0 0 Q)
    (t2 : ∀ g z, V ML_law d 1126 [some (.inr 1), some (.inr 2), some (.inr 476), some (.inl i)] [] g 0 0 Q → V ML_law d pc2 [some (.inr 1), some (.inr 2), some (.inr 476), some (.inl i)] [.inl z, .inl z] g 0 0 Q)
    (next : ∀ g, IE g (K + 1) → jScr h g → V ML_law d 1126 [some (.inr 1), some (.inr 2), some (.inr 476), some (.inl i)] [] g 0 0 Q) :
    Ex M8 d8 a8 h 0 0 (fun v h2 => V ML_law d pc1 [some (.inr 1), some (.inr 2), some (.inr 476), some (.inl i)] (v.toList ++ []) h2 0 0 Q) := by
  refine Ex.mono (Ex.scr hp) ?_
  rintro v g ⟨⟨z, rfl, s9, hz⟩, sc⟩
  refine t1 g z sc s9 (Ex.mono (Ex.scr hz) ?_)
  rintro v g2 ⟨⟨rfl, hI⟩, sc2⟩
  exact t2 g2 z (next g2 hI ⟨sc2.1.trans sc.1, fun j hj => (sc2.2 j (by rw [sc.1]; exact hj)).trans (sc.2 j hj)⟩)
theorem law_loop {L : Nat} (hL : L ≤ 2560) : ∀ w i : Nat, L ≤ i + w → ∀ (K : Int) (h : jH), K * 5 = (i : Int) → i ≤ 2560 → IE h K → (jS h 1).2 = L → V ML_law (d + 13 + 13) 18 [some (.inr 1), some (.inr 2), some (.inr 476), some (.inl (i : Int))] [] h 0 0 (fun v _ => v = some (.inl 1)) := by
  intro w
  induction w with
  | zero =>
    intro i hi K h hK hi2 hI hS
    obtain ⟨D, node, n, nw, nd, wi, sn, ns, code, cm, s, past, u, hI⟩ := hI
    have s8 : (jS h 2).1 = 8 := hI.x.s2
    apply bL_law_18
    case q1 => intro _; rfl
    case r1 => rw [hS]; exact ⟨by omega, by omega⟩
    case s5 => exact s8
    all_goals (rw [hS]; intro y; exact absurd (by omega) y)
  | succ w ih =>
    intro i hi K h hK hi2 hI hS
    refine V_wf (fun hwf => ?_)
    have next : ∀ g, i + 5 ≤ L → IE g (K + 1) → jScr h g → V ML_law (d + 13 + 13) 1126 [some (.inr 1), some (.inr 2), some (.inr 476), some (.inl (i : Int))] [] g 0 0 (fun v _ => v = some (.inl 1)) := by
      intro g hi5 hI' sc
      apply bL_law_1126
      case r1 => exact ⟨by omega, by omega⟩
      case k1 =>
        rw [show (i : Int) + 5 = ((i + 5 : Nat) : Int) by omega]
        exact ih (i + 5) (by omega) (K + 1) g (by omega) (by omega) hI' (by rw [sc.1]; exact hS)
    have s8 : (jS h 2).1 = 8 := by
      obtain ⟨D, node, n, nw, nd, wi, sn, ns, code, cm, s, past, u, hI⟩ := id hI
      exact hI.x.s2
    have hw : ∀ j : Nat, jX h 1 j < 2147483648 := fun j => (hwf.2.2.1 1 j).2
    have q : ∀ g, i + 5 ≤ L → jScr h g → (jS g 1).2 = L ∧ jX g 1 (((i : Int) + 1).toNat) = jX h 1 (((i : Int) + 1).toNat) ∧ jX g 1 (((i : Int) + 2).toNat) = jX h 1 (((i : Int) + 2).toNat) ∧ jX g 1 (((i : Int) + 3).toNat) = jX h 1 (((i : Int) + 3).toNat) ∧ jX g 1 (((i : Int) + 4).toNat) = jX h 1 (((i : Int) + 4).toNat) := fun g h5 sc => ⟨by rw [sc.1]; exact hS, sc.2 _ (by rw [hS]; omega), sc.2 _ (by rw [hS]; omega), sc.2 _ (by rw [hS]; omega), sc.2 _ (by rw [hS]; omega)⟩
    apply bL_law_18
    case q1 => intro _; rfl
    case r1 => rw [hS]; exact ⟨by omega, by omega⟩
    case s5 => exact s8
    case e1 =>
      rw [hS]
      intro y0 _
      have h5 : i + 5 ≤ L := by omega
      refine law_op (pc2 := 202) (pair_type (d' := d + 13) hI) (fun g z sc s9 E => ?_) (fun g z k => ?_) (fun g => next g h5)
      · obtain ⟨b0, b1, b2, b3, b4⟩ := q g h5 sc
        apply bL_law_193
        case e1 => rw [b1]; exact E
        all_goals (try rw [b0])
        all_goals first
          | exact s9
          | omega
          | exact ⟨by omega, by omega⟩
      · apply bL_law_202
        case k1 => intro _; exact k
        case q1 => intro y; exact absurd rfl y
    case e2 =>
      rw [hS]
      intro y0 _ _
      have h5 : i + 5 ≤ L := by omega
      refine law_op (pc2 := 215) (pair_clear (d' := d + 13) hI) (fun g z sc s9 E => ?_) (fun g z k => ?_) (fun g => next g h5)
      · obtain ⟨b0, b1, b2, b3, b4⟩ := q g h5 sc
        apply bL_law_211
        case e1 => exact E
        all_goals (try rw [b0])
        all_goals first
          | exact s9
          | omega
          | exact ⟨by omega, by omega⟩
      · apply bL_law_215
        case k1 => intro _; exact k
        case q1 => intro y; exact absurd rfl y
    case e3 =>
      rw [hS]
      intro y0 _ _ _
      have h5 : i + 5 ≤ L := by omega
      refine law_op (pc2 := 228) (pair_tells (d' := d + 13) hI) (fun g z sc s9 E => ?_) (fun g z k => ?_) (fun g => next g h5)
      · obtain ⟨b0, b1, b2, b3, b4⟩ := q g h5 sc
        apply bL_law_224
        case e1 => exact E
        all_goals (try rw [b0])
        all_goals first
          | exact s9
          | omega
          | exact ⟨by omega, by omega⟩
      · apply bL_law_228
        case k1 => intro _; exact k
        case q1 => intro y; exact absurd rfl y
    case e4 =>
      rw [hS]
      intro y0 _ _ _ _
      have h5 : i + 5 ≤ L := by omega
      refine law_op (pc2 := 241) (pair_node (d' := d + 13) hI) (fun g z sc s9 E => ?_) (fun g z k => ?_) (fun g => next g h5)
      · obtain ⟨b0, b1, b2, b3, b4⟩ := q g h5 sc
        apply bL_law_237
        case e1 => exact E
        all_goals (try rw [b0])
        all_goals first
          | exact s9
          | omega
          | exact ⟨by omega, by omega⟩
      · apply bL_law_241
        case k1 => intro _; exact k
        case q1 => intro y; exact absurd rfl y
    case e5 =>
      rw [hS]
      intro y0 _ _ _ _ _
      have h5 : i + 5 ≤ L := by omega
      refine law_op (pc2 := 274) (pair_about (d' := d + 13) hI) (fun g z sc s9 E => ?_) (fun g z k => ?_) (fun g => next g h5)
      · obtain ⟨b0, b1, b2, b3, b4⟩ := q g h5 sc
        apply bL_law_260
        case e1 => rw [b1, b2]; exact E
        all_goals (try rw [b0])
        all_goals first
          | exact s9
          | omega
          | exact ⟨by omega, by omega⟩
      · apply bL_law_274
        case k1 => intro _; exact k
        case q1 => intro y; exact absurd rfl y
    case e6 =>
      rw [hS]
      intro y0 _ _ _ _ _ _
      have h5 : i + 5 ≤ L := by omega
      refine law_op (pc2 := 307) (pair_scope (d' := d + 13) hI) (fun g z sc s9 E => ?_) (fun g z k => ?_) (fun g => next g h5)
      · obtain ⟨b0, b1, b2, b3, b4⟩ := q g h5 sc
        apply bL_law_293
        case e1 => rw [b1, b2]; exact E
        all_goals (try rw [b0])
        all_goals first
          | exact s9
          | omega
          | exact ⟨by omega, by omega⟩
      · apply bL_law_307
        case k1 => intro _; exact k
        case q1 => intro y; exact absurd rfl y
    case e7 =>
      rw [hS]
      intro y0 _ _ _ _ _ _ _
      have h5 : i + 5 ≤ L := by omega
      refine law_op (pc2 := 340) (pair_listed (d' := d + 13) hI (hw _)) (fun g z sc s9 E => ?_) (fun g z k => ?_) (fun g => next g h5)
      · obtain ⟨b0, b1, b2, b3, b4⟩ := q g h5 sc
        apply bL_law_326
        case e1 => rw [b1, b2]; exact E
        all_goals (try rw [b0])
        all_goals first
          | exact s9
          | omega
          | exact ⟨by omega, by omega⟩
      · apply bL_law_340
        case k1 => intro _; exact k
        case q1 => intro y; exact absurd rfl y
    case e8 =>
      rw [hS]
      intro y0 _ _ _ _ _ _ _ _
      have h5 : i + 5 ≤ L := by omega
      refine law_op (pc2 := 373) (pair_path (d' := d + 13) hI) (fun g z sc s9 E => ?_) (fun g z k => ?_) (fun g => next g h5)
      · obtain ⟨b0, b1, b2, b3, b4⟩ := q g h5 sc
        apply bL_law_359
        case e1 => rw [b1, b2]; exact E
        all_goals (try rw [b0])
        all_goals first
          | exact s9
          | omega
          | exact ⟨by omega, by omega⟩
      · apply bL_law_373
        case k1 => intro _; exact k
        case q1 => intro y; exact absurd rfl y
    case e9 =>
      rw [hS]
      intro y0 _ _ _ _ _ _ _ _ _
      have h5 : i + 5 ≤ L := by omega
      refine law_op (pc2 := 406) (pair_sets (d' := d + 13) hI (by omega)) (fun g z sc s9 E => ?_) (fun g z k => ?_) (fun g => next g h5)
      · obtain ⟨b0, b1, b2, b3, b4⟩ := q g h5 sc
        apply bL_law_392
        case e1 => rw [b1, b2]; exact E
        all_goals (try rw [b0])
        all_goals first
          | exact s9
          | omega
          | exact ⟨by omega, by omega⟩
      · apply bL_law_406
        case k1 => intro _; exact k
        case q1 => intro y; exact absurd rfl y
    case e10 =>
      rw [hS]
      intro y0 _ _ _ _ _ _ _ _ _ _
      have h5 : i + 5 ≤ L := by omega
      refine law_op (pc2 := 429) (pair_passes (d' := d + 13) hI) (fun g z sc s9 E => ?_) (fun g z k => ?_) (fun g => next g h5)
      · obtain ⟨b0, b1, b2, b3, b4⟩ := q g h5 sc
        apply bL_law_420
        case e1 => rw [b1]; exact E
        all_goals (try rw [b0])
        all_goals first
          | exact s9
          | omega
          | exact ⟨by omega, by omega⟩
      · apply bL_law_429
        case k1 => intro _; exact k
        case q1 => intro y; exact absurd rfl y
    case e11 =>
      rw [hS]
      intro y0 _ _ _ _ _ _ _ _ _ _ _
      have h5 : i + 5 ≤ L := by omega
      refine law_op (pc2 := 452) (pair_dumps (d' := d + 13) hI (by omega)) (fun g z sc s9 E => ?_) (fun g z k => ?_) (fun g => next g h5)
      · obtain ⟨b0, b1, b2, b3, b4⟩ := q g h5 sc
        apply bL_law_443
        case e1 => rw [b1]; exact E
        all_goals (try rw [b0])
        all_goals first
          | exact s9
          | omega
          | exact ⟨by omega, by omega⟩
      · apply bL_law_452
        case k1 => intro _; exact k
        case q1 => intro y; exact absurd rfl y
    case e12 =>
      rw [hS]
      intro y0 _ _ _ _ _ _ _ _ _ _ _ _
      have h5 : i + 5 ≤ L := by omega
      refine law_op (pc2 := 475) (pair_sizes (d' := d + 13) hI) (fun g z sc s9 E => ?_) (fun g z k => ?_) (fun g => next g h5)
      · obtain ⟨b0, b1, b2, b3, b4⟩ := q g h5 sc
        apply bL_law_466
        case e1 => rw [b1]; exact E
        all_goals (try rw [b0])
        all_goals first
          | exact s9
          | omega
          | exact ⟨by omega, by omega⟩
      · apply bL_law_475
        case k1 => intro _; exact k
        case q1 => intro y; exact absurd rfl y
    case e13 =>
      rw [hS]
      intro y0 _ _ _ _ _ _ _ _ _ _ _ _ _
      have h5 : i + 5 ≤ L := by omega
      refine law_op (pc2 := 488) (pair_undo (d' := d + 13) hI) (fun g z sc s9 E => ?_) (fun g z k => ?_) (fun g => next g h5)
      · obtain ⟨b0, b1, b2, b3, b4⟩ := q g h5 sc
        apply bL_law_484
        case e1 => exact E
        all_goals (try rw [b0])
        all_goals first
          | exact s9
          | omega
          | exact ⟨by omega, by omega⟩
      · apply bL_law_488
        case k1 => intro _; exact k
        case q1 => intro y; exact absurd rfl y
    case e14 =>
      rw [hS]
      intro y0 _ _ _ _ _ _ _ _ _ _ _ _ _ _
      have h5 : i + 5 ≤ L := by omega
      refine law_op (pc2 := 521) (pair_at (d' := d + 13) hI) (fun g z sc s9 E => ?_) (fun g z k => ?_) (fun g => next g h5)
      · obtain ⟨b0, b1, b2, b3, b4⟩ := q g h5 sc
        apply bL_law_507
        case e1 => rw [b1, b2]; exact E
        all_goals (try rw [b0])
        all_goals first
          | exact s9
          | omega
          | exact ⟨by omega, by omega⟩
      · apply bL_law_521
        case k1 => intro _; exact k
        case q1 => intro y; exact absurd rfl y
    case e15 =>
      rw [hS]
      intro y0 _ _ _ _ _ _ _ _ _ _ _ _ _ _ _
      have h5 : i + 5 ≤ L := by omega
      refine law_op (pc2 := 574) (pair_edges (d' := d + 13) hI) (fun g z sc s9 E => ?_) (fun g z k => ?_) (fun g => next g h5)
      · obtain ⟨b0, b1, b2, b3, b4⟩ := q g h5 sc
        apply bL_law_550
        case e1 => rw [b1, b2, b3, b4]; exact E
        all_goals (try rw [b0])
        all_goals first
          | exact s9
          | omega
          | exact ⟨by omega, by omega⟩
      · apply bL_law_574
        case k1 => intro _; exact k
        case q1 => intro y; exact absurd rfl y
    case e16 =>
      rw [hS]
      intro y0 _ _ _ _ _ _ _ _ _ _ _ _ _ _ _ _
      have h5 : i + 5 ≤ L := by omega
      refine law_op (pc2 := 617) (pair_next (d' := d + 13) hI) (fun g z sc s9 E => ?_) (fun g z k => ?_) (fun g => next g h5)
      · obtain ⟨b0, b1, b2, b3, b4⟩ := q g h5 sc
        apply bL_law_598
        case e1 => rw [b1, b2, b3]; exact E
        all_goals (try rw [b0])
        all_goals first
          | exact s9
          | omega
          | exact ⟨by omega, by omega⟩
      · apply bL_law_617
        case k1 => intro _; exact k
        case q1 => intro y; exact absurd rfl y
    case e17 =>
      rw [hS]
      intro y0 _ _ _ _ _ _ _ _ _ _ _ _ _ _ _ _ _
      have h5 : i + 5 ≤ L := by omega
      refine law_op (pc2 := 660) (pair_previous (d' := d + 13) hI) (fun g z sc s9 E => ?_) (fun g z k => ?_) (fun g => next g h5)
      · obtain ⟨b0, b1, b2, b3, b4⟩ := q g h5 sc
        apply bL_law_641
        case e1 => rw [b1, b2, b3]; exact E
        all_goals (try rw [b0])
        all_goals first
          | exact s9
          | omega
          | exact ⟨by omega, by omega⟩
      · apply bL_law_660
        case k1 => intro _; exact k
        case q1 => intro y; exact absurd rfl y
    case e18 =>
      rw [hS]
      intro y0 _ _ _ _ _ _ _ _ _ _ _ _ _ _ _ _ _ _
      have h5 : i + 5 ≤ L := by omega
      refine law_op (pc2 := 703) (pair_first (d' := d + 13) hI) (fun g z sc s9 E => ?_) (fun g z k => ?_) (fun g => next g h5)
      · obtain ⟨b0, b1, b2, b3, b4⟩ := q g h5 sc
        apply bL_law_684
        case e1 => rw [b1, b2, b3]; exact E
        all_goals (try rw [b0])
        all_goals first
          | exact s9
          | omega
          | exact ⟨by omega, by omega⟩
      · apply bL_law_703
        case k1 => intro _; exact k
        case q1 => intro y; exact absurd rfl y
    case e19 =>
      rw [hS]
      intro y0 _ _ _ _ _ _ _ _ _ _ _ _ _ _ _ _ _ _ _
      have h5 : i + 5 ≤ L := by omega
      refine law_op (pc2 := 746) (pair_holds (d' := d + 13) hI) (fun g z sc s9 E => ?_) (fun g z k => ?_) (fun g => next g h5)
      · obtain ⟨b0, b1, b2, b3, b4⟩ := q g h5 sc
        apply bL_law_727
        case e1 => rw [b1, b2, b3]; exact E
        all_goals (try rw [b0])
        all_goals first
          | exact s9
          | omega
          | exact ⟨by omega, by omega⟩
      · apply bL_law_746
        case k1 => intro _; exact k
        case q1 => intro y; exact absurd rfl y
    case e20 =>
      rw [hS]
      intro y0 _ _ _ _ _ _ _ _ _ _ _ _ _ _ _ _ _ _ _ _
      have h5 : i + 5 ≤ L := by omega
      refine law_op (pc2 := 779) (pair_ticks (d' := d + 13) hI) (fun g z sc s9 E => ?_) (fun g z k => ?_) (fun g => next g h5)
      · obtain ⟨b0, b1, b2, b3, b4⟩ := q g h5 sc
        apply bL_law_765
        case e1 => rw [b1, b2]; exact E
        all_goals (try rw [b0])
        all_goals first
          | exact s9
          | omega
          | exact ⟨by omega, by omega⟩
      · apply bL_law_779
        case k1 => intro _; exact k
        case q1 => intro y; exact absurd rfl y
    case e21 =>
      rw [hS]
      intro y0 _ _ _ _ _ _ _ _ _ _ _ _ _ _ _ _ _ _ _ _ _
      have h5 : i + 5 ≤ L := by omega
      refine law_op (pc2 := 812) (pair_delay (d' := d + 13) hI) (fun g z sc s9 E => ?_) (fun g z k => ?_) (fun g => next g h5)
      · obtain ⟨b0, b1, b2, b3, b4⟩ := q g h5 sc
        apply bL_law_798
        case e1 => rw [b1, b2]; exact E
        all_goals (try rw [b0])
        all_goals first
          | exact s9
          | omega
          | exact ⟨by omega, by omega⟩
      · apply bL_law_812
        case k1 => intro _; exact k
        case q1 => intro y; exact absurd rfl y
    case e22 =>
      rw [hS]
      intro y0 _ _ _ _ _ _ _ _ _ _ _ _ _ _ _ _ _ _ _ _ _ _
      have h5 : i + 5 ≤ L := by omega
      refine law_op (pc2 := 835) (pair_jump (d' := d + 13) hI) (fun g z sc s9 E => ?_) (fun g z k => ?_) (fun g => next g h5)
      · obtain ⟨b0, b1, b2, b3, b4⟩ := q g h5 sc
        apply bL_law_826
        case e1 => rw [b1]; exact E
        all_goals (try rw [b0])
        all_goals first
          | exact s9
          | omega
          | exact ⟨by omega, by omega⟩
      · apply bL_law_835
        case k1 => intro _; exact k
        case q1 => intro y; exact absurd rfl y
    case e23 =>
      rw [hS]
      intro y0 _ _ _ _ _ _ _ _ _ _ _ _ _ _ _ _ _ _ _ _ _ _ _
      have h5 : i + 5 ≤ L := by omega
      refine law_op (pc2 := 868) (pair_block (d' := d + 13) hI) (fun g z sc s9 E => ?_) (fun g z k => ?_) (fun g => next g h5)
      · obtain ⟨b0, b1, b2, b3, b4⟩ := q g h5 sc
        apply bL_law_854
        case e1 => rw [b1, b2]; exact E
        all_goals (try rw [b0])
        all_goals first
          | exact s9
          | omega
          | exact ⟨by omega, by omega⟩
      · apply bL_law_868
        case k1 => intro _; exact k
        case q1 => intro y; exact absurd rfl y
    case e24 =>
      rw [hS]
      intro y0 _ _ _ _ _ _ _ _ _ _ _ _ _ _ _ _ _ _ _ _ _ _ _ _
      have h5 : i + 5 ≤ L := by omega
      refine law_op (pc2 := 901) (pair_frame (d' := d + 13) hI) (fun g z sc s9 E => ?_) (fun g z k => ?_) (fun g => next g h5)
      · obtain ⟨b0, b1, b2, b3, b4⟩ := q g h5 sc
        apply bL_law_887
        case e1 => rw [b1, b2]; exact E
        all_goals (try rw [b0])
        all_goals first
          | exact s9
          | omega
          | exact ⟨by omega, by omega⟩
      · apply bL_law_901
        case k1 => intro _; exact k
        case q1 => intro y; exact absurd rfl y
    case e25 =>
      rw [hS]
      intro y0 _ _ _ _ _ _ _ _ _ _ _ _ _ _ _ _ _ _ _ _ _ _ _ _ _
      have h5 : i + 5 ≤ L := by omega
      refine law_op (pc2 := 944) (pair_change (d' := d + 13) hI) (fun g z sc s9 E => ?_) (fun g z k => ?_) (fun g => next g h5)
      · obtain ⟨b0, b1, b2, b3, b4⟩ := q g h5 sc
        apply bL_law_925
        case e1 => rw [b1, b2, b3]; exact E
        all_goals (try rw [b0])
        all_goals first
          | exact s9
          | omega
          | exact ⟨by omega, by omega⟩
      · apply bL_law_944
        case k1 => intro _; exact k
        case q1 => intro y; exact absurd rfl y
    case e26 =>
      rw [hS]
      intro y0 _ _ _ _ _ _ _ _ _ _ _ _ _ _ _ _ _ _ _ _ _ _ _ _ _ _
      have h5 : i + 5 ≤ L := by omega
      refine law_op (pc2 := 967) (pair_packed (d' := d + 13) hI) (fun g z sc s9 E => ?_) (fun g z k => ?_) (fun g => next g h5)
      · obtain ⟨b0, b1, b2, b3, b4⟩ := q g h5 sc
        apply bL_law_958
        case e1 => rw [b1]; exact E
        all_goals (try rw [b0])
        all_goals first
          | exact s9
          | omega
          | exact ⟨by omega, by omega⟩
      · apply bL_law_967
        case k1 => intro _; exact k
        case q1 => intro y; exact absurd rfl y
    case e27 =>
      rw [hS]
      intro y0 _ _ _ _ _ _ _ _ _ _ _ _ _ _ _ _ _ _ _ _ _ _ _ _ _ _ _
      have h5 : i + 5 ≤ L := by omega
      refine law_op (pc2 := 980) (pair_best (d' := d + 13) hI) (fun g z sc s9 E => ?_) (fun g z k => ?_) (fun g => next g h5)
      · obtain ⟨b0, b1, b2, b3, b4⟩ := q g h5 sc
        apply bL_law_976
        case e1 => exact E
        all_goals (try rw [b0])
        all_goals first
          | exact s9
          | omega
          | exact ⟨by omega, by omega⟩
      · apply bL_law_980
        case k1 => intro _; exact k
        case q1 => intro y; exact absurd rfl y
    case e28 =>
      rw [hS]
      intro y0 _ _ _ _ _ _ _ _ _ _ _ _ _ _ _ _ _ _ _ _ _ _ _ _ _ _ _ _
      have h5 : i + 5 ≤ L := by omega
      refine law_op (pc2 := 1013) (pair_sees (d' := d + 13) hI) (fun g z sc s9 E => ?_) (fun g z k => ?_) (fun g => next g h5)
      · obtain ⟨b0, b1, b2, b3, b4⟩ := q g h5 sc
        apply bL_law_999
        case e1 => rw [b1, b2]; exact E
        all_goals (try rw [b0])
        all_goals first
          | exact s9
          | omega
          | exact ⟨by omega, by omega⟩
      · apply bL_law_1013
        case k1 => intro _; exact k
        case q1 => intro y; exact absurd rfl y
    case e29 =>
      rw [hS]
      intro y0 _ _ _ _ _ _ _ _ _ _ _ _ _ _ _ _ _ _ _ _ _ _ _ _ _ _ _ _ _
      have h5 : i + 5 ≤ L := by omega
      refine law_op (pc2 := 1026) (pair_forget (d' := d + 13) hI) (fun g z sc s9 E => ?_) (fun g z k => ?_) (fun g => next g h5)
      · obtain ⟨b0, b1, b2, b3, b4⟩ := q g h5 sc
        apply bL_law_1022
        case e1 => exact E
        all_goals (try rw [b0])
        all_goals first
          | exact s9
          | omega
          | exact ⟨by omega, by omega⟩
      · apply bL_law_1026
        case k1 => intro _; exact k
        case q1 => intro y; exact absurd rfl y
    case e30 =>
      rw [hS]
      intro y0 _ _ _ _ _ _ _ _ _ _ _ _ _ _ _ _ _ _ _ _ _ _ _ _ _ _ _ _ _ _
      have h5 : i + 5 ≤ L := by omega
      refine law_op (pc2 := 1039) (pair_which (d' := d + 13) hI) (fun g z sc s9 E => ?_) (fun g z k => ?_) (fun g => next g h5)
      · obtain ⟨b0, b1, b2, b3, b4⟩ := q g h5 sc
        apply bL_law_1035
        case e1 => exact E
        all_goals (try rw [b0])
        all_goals first
          | exact s9
          | omega
          | exact ⟨by omega, by omega⟩
      · apply bL_law_1039
        case k1 => intro _; exact k
        case q1 => intro y; exact absurd rfl y
    case e31 =>
      rw [hS]
      intro y0 _ _ _ _ _ _ _ _ _ _ _ _ _ _ _ _ _ _ _ _ _ _ _ _ _ _ _ _ _ _ _
      have h5 : i + 5 ≤ L := by omega
      refine law_op (pc2 := 1052) (pair_look (d' := d + 13) hI) (fun g z sc s9 E => ?_) (fun g z k => ?_) (fun g => next g h5)
      · obtain ⟨b0, b1, b2, b3, b4⟩ := q g h5 sc
        apply bL_law_1048
        case e1 => exact E
        all_goals (try rw [b0])
        all_goals first
          | exact s9
          | omega
          | exact ⟨by omega, by omega⟩
      · apply bL_law_1052
        case k1 => intro _; exact k
        case q1 => intro y; exact absurd rfl y
    case e32 =>
      rw [hS]
      intro y0 _ _ _ _ _ _ _ _ _ _ _ _ _ _ _ _ _ _ _ _ _ _ _ _ _ _ _ _ _ _ _ _
      have h5 : i + 5 ≤ L := by omega
      refine law_op (pc2 := 1075) (pair_keep (d' := d + 13) hI) (fun g z sc s9 E => ?_) (fun g z k => ?_) (fun g => next g h5)
      · obtain ⟨b0, b1, b2, b3, b4⟩ := q g h5 sc
        apply bL_law_1066
        case e1 => rw [b1]; exact E
        all_goals (try rw [b0])
        all_goals first
          | exact s9
          | omega
          | exact ⟨by omega, by omega⟩
      · apply bL_law_1075
        case k1 => intro _; exact k
        case q1 => intro y; exact absurd rfl y
    case e33 =>
      rw [hS]
      intro y0 _ _ _ _ _ _ _ _ _ _ _ _ _ _ _ _ _ _ _ _ _ _ _ _ _ _ _ _ _ _ _ _ _
      have h5 : i + 5 ≤ L := by omega
      refine law_op (pc2 := 1098) (pair_back (d' := d + 13) hI) (fun g z sc s9 E => ?_) (fun g z k => ?_) (fun g => next g h5)
      · obtain ⟨b0, b1, b2, b3, b4⟩ := q g h5 sc
        apply bL_law_1089
        case e1 => rw [b1]; exact E
        all_goals (try rw [b0])
        all_goals first
          | exact s9
          | omega
          | exact ⟨by omega, by omega⟩
      · apply bL_law_1098
        case k1 => intro _; exact k
        case q1 => intro y; exact absurd rfl y
    case e34 =>
      rw [hS]
      intro y0 _ _ _ _ _ _ _ _ _ _ _ _ _ _ _ _ _ _ _ _ _ _ _ _ _ _ _ _ _ _ _ _ _ _
      have h5 : i + 5 ≤ L := by omega
      refine law_op (pc2 := 1121) (pair_count (d' := d + 13) hI) (fun g z sc s9 E => ?_) (fun g z k => ?_) (fun g => next g h5)
      · obtain ⟨b0, b1, b2, b3, b4⟩ := q g h5 sc
        apply bL_law_1112
        case e1 => rw [b1]; exact E
        all_goals (try rw [b0])
        all_goals first
          | exact s9
          | omega
          | exact ⟨by omega, by omega⟩
      · apply bL_law_1121
        case k1 => intro _; exact k
        case q1 => intro y; exact absurd rfl y
    case k1 =>
      rw [hS]
      intro y0 _ _ _ _ _ _ _ _ _ _ _ _ _ _ _ _ _ _ _ _ _ _ _ _ _ _ _ _ _ _ _ _ _ _
      exact next h (by omega) (by
        obtain ⟨D, node, n, nw, nd, wi, sn, ns, code, cm, s, past, u, hI⟩ := hI
        exact hI.ie) ⟨rfl, fun _ _ => rfl⟩
    all_goals (rw [hS]; intros; first | omega | exact ⟨by omega, by omega⟩)
end NO
