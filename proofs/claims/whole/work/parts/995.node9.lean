/-! ===== model: a node ===== -/
section MX2
variable {h g h0 g1 gE : jH} {b : Nat → Int} {c : Nat} {node wi sn code cm code' cm' cw ci : Nat → Int} {n nw nd ns D d p q f L t m : Nat} {op i1 i2 i3 i4 : Int} {R : Option jA → jH → Prop}
/-- behind a fault -/
theorem rn405 (hT : TXM g1 b c) (hF : FI g1 g f) (hk : ∀ g, FI g1 g f → R none g) : V MX9_readsNode (d + 7) 241 [some (.inr 476), some (.inl i1), some (.inl i2), some (.inl i3), some (.inl i4)] [] g 0 0 R := by
  have hM := hF.mk hT
  apply bX9_readsNode_241
  case k1 =>
    intro _
    apply bX9_readsNode_405
    exact hk g hF
  all_goals first
    | exact hM.x
    | (intro z; exact absurd z hF.ne)
    | (rw [hM.p21, hM.s487]; done)
theorem rn142f {u3 u4 : Option jA} (hT : TXM g1 b c) (hF : FI g1 g f) (hk : ∀ g, FI g1 g f → R none g) : V MX9_readsNode (d + 7) 142 [some (.inr 476), some (.inl i1), some (.inl i2), u3, u4] [] g 0 0 R := by
  have hM := hF.mk hT
  apply bX9_readsNode_142
  case k1 =>
    intro _
    apply bX9_readsNode_205
    case k1 =>
      intro _
      apply bX9_readsNode_228
      case k1 => intro _; exact rn405 hT hF hk
      all_goals first
        | exact hM.x
        | (intro z; exact absurd z hF.ne)
    all_goals first
      | exact hM.x
      | (intro z; exact absurd z hF.ne)
  all_goals first
    | exact hM.x
    | (intro z; exact absurd z hF.ne)
theorem nd6_up {y : Nat → Int} {x0 x1 x2 x3 x4 x5 : Int} : up (up (up (up (up (up y (6 * n) x0) (6 * n + 1) x1) (6 * n + 2) x2) (6 * n + 3) x3) (6 * n + 4) x4) (6 * n + 5) x5 = nd6 y n x0 x1 x2 x3 x4 x5 := by
  funext k
  by_cases z5 : k = 6 * n + 5
  · rw [z5, up_s, nd6_5]
  · rw [up_o z5]
    by_cases z4 : k = 6 * n + 4
    · rw [z4, up_s, nd6_4]
    · rw [up_o z4]
      by_cases z3 : k = 6 * n + 3
      · rw [z3, up_s, nd6_3]
      · rw [up_o z3]
        by_cases z2 : k = 6 * n + 2
        · rw [z2, up_s, nd6_2]
        · rw [up_o z2]
          by_cases z1 : k = 6 * n + 1
          · rw [z1, up_s, nd6_1]
          · rw [up_o z1]
            by_cases z0 : k = 6 * n
            · rw [z0, up_s, nd6_0]
            · rw [up_o z0]
              unfold nd6
              rw [if_neg z0, if_neg z1, if_neg z2, if_neg z3, if_neg z4, if_neg z5]
theorem nd6_w {x0 x1 x2 x3 x4 x5 : Int} : jX (jsX (jsX (jsX (jsX (jsX (jsX g 487 (6 * n) x0) 487 (6 * n + 1) x1) 487 (6 * n + 2) x2) 487 (6 * n + 3) x3) 487 (6 * n + 4) x4) 487 (6 * n + 5) x5) 487 = nd6 (jX g 487) n x0 x1 x2 x3 x4 x5 := by
  rw [jX_up, jX_up, jX_up, jX_up, jX_up, jX_up, nd6_up]
theorem nd6_c {y y' : Nat → Int} {x0 x1 x2 x3 x4 x5 : Int} (he : ∀ k, k < 6 * n → y k = y' k) {k : Nat} (hk : k < 6 * (n + 1)) : nd6 y n x0 x1 x2 x3 x4 x5 k = nd6 y' n x0 x1 x2 x3 x4 x5 k := by
  by_cases z : k < 6 * n
  · rw [nd6_o z, nd6_o z, he k z]
  · rcases (show k = 6 * n ∨ k = 6 * n + 1 ∨ k = 6 * n + 2 ∨ k = 6 * n + 3 ∨ k = 6 * n + 4 ∨ k = 6 * n + 5 by omega) with q | q | q | q | q | q
    · rw [q, nd6_0, nd6_0]
    · rw [q, nd6_1, nd6_1]
    · rw [q, nd6_2, nd6_2]
    · rw [q, nd6_3, nd6_3]
    · rw [q, nd6_4, nd6_4]
    · rw [q, nd6_5, nd6_5]
/-- the state with a node more -/
theorem MI.ndd {g8 : jH} {nw' nd' : Nat} {x0 x1 x2 x4 x5 : Int} (hI : MI g1 g b c p node n nw nd wi sn ns code cm op) (f8 : MF PP PFd g g8) (e8 : jX g8 487 = nd6 (jX g 487) n x0 x1 x2 op x4 x5) (x8 : ∀ a, a ≠ 487 → jX g8 a = jX g a) (q22 : jI g8 476 22 = (n : Int) + 1) (q23 : jI g8 476 23 = (nw' : Int)) (q24 : jI g8 476 24 = (nd' : Int)) (qo : ∀ k, k ≠ 22 → k ≠ 23 → k ≠ 24 → jI g8 476 k = jI g 476 k)
    (hc : ∀ w, w < nd' → ∀ j, j < 2 * (cm' w).toNat → jX g 490 (40 * w + j) = code' (40 * w + j)) (hm : ∀ k, k < nd' → jX g 491 k = cm' k ∧ cm' k ≤ 17) : MI g1 g8 b c p (nd6 node n x0 x1 x2 op x4 x5) (n + 1) nw' nd' wi sn ns code' cm' op := by
  obtain ⟨m1, m2, m3, m4, m5, m6, m7, m8, m9, m10⟩ := hI
  refine ⟨m1.trans f8, ⟨m2.1, ?_, ?_, ?_, fun z => ?_⟩, ?_, ⟨?_, ?_, fun k hk => ?_, fun k hk => ?_⟩, q23, q24, ?_, ?_, fun w hw j hj => ?_, fun k hk => ?_⟩
  · rw [qo 16 (by omega) (by omega) (by omega)]; exact m2.2.1
  · rw [qo 17 (by omega) (by omega) (by omega)]; exact m2.2.2.1
  · rw [qo 18 (by omega) (by omega) (by omega)]; exact m2.2.2.2.1
  · rw [qo 19 (by omega) (by omega) (by omega)]; exact m2.2.2.2.2 z
  · rw [qo 20 (by omega) (by omega) (by omega)]; exact m3
  · rw [q22]; omega
  · rw [qo 27 (by omega) (by omega) (by omega)]; exact m4.2.1
  · rw [e8]; exact nd6_c m4.2.2.1 hk
  · rw [x8 488 (by omega), x8 489 (by omega)]; exact m4.2.2.2 k hk
  · rw [qo 30 (by omega) (by omega) (by omega)]; exact m7
  · rw [qo 31 (by omega) (by omega) (by omega)]; exact m8
  · rw [x8 490 (by omega)]; exact hc w hw j hj
  · rw [x8 491 (by omega)]; exact hm k hk
/-- the last of the node, with the number of its kind -/
theorem rn357 {g5 : jH} {wh : Int} (hM : MK g5) (i22 : jI g5 476 22 = (n : Int)) (i23 : jI g5 476 23 = (nw : Int)) (i24 : jI g5 476 24 = (nd : Int)) (hn : n ≤ 11) (hnw : nw ≤ 6) (hnd : nd ≤ 4)
    (hk : ∀ g8, MF PP PFd g5 g8 → jX g8 487 = jX (jsX g5 487 (6 * n + 5) wh) 487 → (∀ a, a ≠ 487 → jX g8 a = jX g5 a) → jI g8 476 22 = (n : Int) + 1 → jI g8 476 23 = ((if i2 = 0 then nw + 1 else nw : Nat) : Int) → jI g8 476 24 = ((if i2 = 2 then nd + 1 else nd : Nat) : Int) → (∀ k, k ≠ 22 → k ≠ 23 → k ≠ 24 → jI g8 476 k = jI g5 476 k) → R none g8) :
    V MX9_readsNode (d + 7) 357 [some (.inr 476), some (.inl i1), some (.inl i2), some (.inl i3), some (.inl i4)] [.inl wh, .inl (6 * (n : Int) + 5), .inr 487] g5 0 0 R := by
  have t5 : (6 * (n : Int) + 5).toNat = 6 * n + 5 := by omega
  have f6 : MF PP PFd g5 (jsI (jsX g5 487 (6 * n + 5) wh) 476 22 ((n : Int) + 1)) := (MF.sX (by unfold PP; omega)).trans (MF.sI (by unfold PFd; omega))
  have a22 : jI (jsI (jsX g5 487 (6 * n + 5) wh) 476 22 ((n : Int) + 1)) 476 22 = (n : Int) + 1 := by rw [jI_sI, if_pos ⟨rfl, rfl⟩]
  have ao : ∀ k, k ≠ 22 → jI (jsI (jsX g5 487 (6 * n + 5) wh) 476 22 ((n : Int) + 1)) 476 k = jI g5 476 k := fun k h1 => by rw [jI_sI, if_neg (by omega)]; rfl
  have ax : jX (jsI (jsX g5 487 (6 * n + 5) wh) 476 22 ((n : Int) + 1)) = jX (jsX g5 487 (6 * n + 5) wh) := rfl
  have key : ∀ g6 : jH, MF PP PFd g5 g6 → jX g6 = jX (jsX g5 487 (6 * n + 5) wh) → jI g6 476 22 = (n : Int) + 1 → (∀ k, k ≠ 22 → jI g6 476 k = jI g5 476 k) → ∀ w : Int, w = (if i2 = 0 then 1 else 0) → V MX9_readsNode (d + 7) 382 [some (.inr 476), some (.inl i1), some (.inl i2), some (.inl i3), some (.inl i4)] [.inl w, .inl (nw : Int), .inr 476] g6 0 0 R := by
    intro g6 f6 x6 b22 bo w hw
    have hM6 := f6.mk hM
    have hw' : w = 0 ∨ w = 1 := by rw [hw]; split <;> omega
    have c24 : jI (jsI g6 476 23 ((nw : Int) + w)) 476 24 = (nd : Int) := by rw [jI_sI, if_neg (by omega), bo 24 (by omega)]; exact i24
    have c24' : jI g6 476 24 = (nd : Int) := by rw [bo 24 (by omega)]; exact i24
    have tail : ∀ v : Int, v = (if i2 = 2 then 1 else 0) → V MX9_readsNode (d + 7) 401 [some (.inr 476), some (.inl i1), some (.inl i2), some (.inl i3), some (.inl i4)] [.inl v, .inl (nd : Int), .inr 476] (jsI g6 476 23 ((nw : Int) + w)) 0 0 R := by
      intro v hv
      have hv' : v = 0 ∨ v = 1 := by rw [hv]; split <;> omega
      apply bX9_readsNode_401
      case r1 => exact ⟨by omega, by omega⟩
      case k1 =>
        apply bX9_readsNode_405
        refine hk _ ((f6.trans (MF.sI (by unfold PFd; omega))).trans (MF.sI (by unfold PFd; omega))) (congrFun x6 487) (fun a ha => ?_) ?_ ?_ ?_ (fun k h1 h2 h3 => ?_)
        · have e1 : jX (jsI (jsI g6 476 23 ((nw : Int) + w)) 476 24 ((nd : Int) + v)) a = jX g6 a := rfl
          rw [e1, x6]
          funext k
          rw [jX_sX, if_neg (fun y => ha y.1)]
        · rw [jI_sI, if_neg (by omega), jI_sI, if_neg (by omega)]; exact b22
        · rw [jI_sI, if_neg (by omega), jI_sI, if_pos ⟨rfl, rfl⟩, hw]; split <;> omega
        · rw [jI_sI, if_pos ⟨rfl, rfl⟩, hv]; split <;> omega
        · rw [jI_sI, if_neg (by omega), jI_sI, if_neg (by omega)]; exact bo k h1
      all_goals exact hM6.x
    apply bX9_readsNode_382
    case r1 => exact ⟨by omega, by omega⟩
    case k1 => intro z; rw [c24']; exact tail 0 (by rw [if_neg z])
    case k2 => intro z; rw [c24']; exact tail 1 (by rw [if_pos z])
    all_goals exact hM6.x
  generalize hg6 : jsI (jsX g5 487 (6 * n + 5) wh) 476 22 ((n : Int) + 1) = g6 at f6 a22 ao ax
  apply bX9_readsNode_357
  case r1 => rw [i22]; exact ⟨by omega, by omega⟩
  case k1 => rw [i22, i23, t5, hg6]; intro z; exact key g6 f6 ax a22 ao 0 (by rw [if_neg z])
  case k2 => rw [i22, i23, t5, hg6]; intro z; exact key g6 f6 ax a22 ao 1 (by rw [if_pos z])
  all_goals first
    | exact hM.x
    | (rw [hM.s487]; done)
    | omega
    | (rw [hM.s487]; refine Int.lt_of_le_of_lt (b := 71) ?_ (by decide); omega)
end MX2
