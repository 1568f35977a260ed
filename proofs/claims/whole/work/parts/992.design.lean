/-! ===== what is told grows ===== -/
section MU
variable {h g : jH} {node node' wi wi' sn code code' cm cm' cx cx' : Nat → Int} {n nw nd ns nw' nd' ns' D o m k : Nat} {x y op : Int}
theorem hg_cong : ∀ j, (∀ i, i < j → cx (o + 2 * i) = cx' (o + 2 * i)) → hg cx o j = hg cx' o j
  | 0, _ => rfl
  | j + 1, q => by
    unfold hg
    rw [hg_cong j (fun i hi => q i (by omega)), q j (by omega)]
theorem CW_cong (he : ∀ i, i < m → cx (o + 2 * i) = cx' (o + 2 * i) ∧ cx (o + 2 * i + 1) = cx' (o + 2 * i + 1)) (hc : CW cx o m k) : CW cx' o m k := by
  obtain ⟨c1, c2, c3⟩ := hc
  refine ⟨c1, by rw [← hg_cong m (fun i hi => (he i hi).1)]; exact c2, fun j hj => ?_⟩
  have h9 := c3 j hj
  rw [hg_cong (j + 1) (fun i hi => (he i (by omega)).1), hg_cong j (fun i hi => (he i (by omega)).1), (he j hj).1, (he j hj).2] at h9
  exact h9
theorem NB_cong (hB : NB node nw nd ns code cm k) (he : ∀ i, i < 6 → node' (6 * k + i) = node (6 * k + i)) (h1 : nw ≤ nw') (h2 : nd ≤ nd') (h3 : ns ≤ ns') (hc : ∀ j, j < 40 * nd → code' j = code j) (hm : ∀ j, j < nd → cm' j = cm j) : NB node' nw' nd' ns' code' cm' k := by
  have e0 := he 0 (by omega)
  have e1 := he 1 (by omega)
  have e2 := he 2 (by omega)
  have e3 := he 3 (by omega)
  have e4 := he 4 (by omega)
  have e5 := he 5 (by omega)
  rw [Nat.add_zero] at e0
  have ew : wr node' k = wr node k := by unfold wr; rw [e5]
  unfold NB at hB ⊢
  rw [e0, e1, e2, e3, e4, e5, ew]
  obtain ⟨b1, b2, b3, b4⟩ := hB
  refine ⟨?_, by omega, b3, b4⟩
  rcases b1 with z | z | ⟨z1, z2, z3, z4, z5, z6, z7⟩
  · left; omega
  · right; left; exact z
  · right; right
    have hw : wr node k < nd := by unfold wr; omega
    rw [hm _ hw]
    refine ⟨z1, z2, z3, z4, by omega, z6, CW_cong (fun i hi => ?_) z7⟩
    have := z7.1
    exact ⟨(hc _ (by omega)).symm, (hc _ (by omega)).symm⟩
/-- a node more -/
def nd6 (node : Nat → Int) (n : Nat) (x0 x1 x2 x3 x4 x5 : Int) : Nat → Int := fun k => if k = 6 * n then x0 else if k = 6 * n + 1 then x1 else if k = 6 * n + 2 then x2 else if k = 6 * n + 3 then x3 else if k = 6 * n + 4 then x4 else if k = 6 * n + 5 then x5 else node k
section MUa
variable {x0 x1 x2 x3 x4 x5 : Int}
theorem nd6_o {j : Nat} (hj : j < 6 * n) : nd6 node n x0 x1 x2 x3 x4 x5 j = node j := by
  unfold nd6
  rw [if_neg (by omega), if_neg (by omega), if_neg (by omega), if_neg (by omega), if_neg (by omega), if_neg (by omega)]
theorem nd6_0 : nd6 node n x0 x1 x2 x3 x4 x5 (6 * n) = x0 := if_pos rfl
theorem nd6_1 : nd6 node n x0 x1 x2 x3 x4 x5 (6 * n + 1) = x1 := by unfold nd6; rw [if_neg (by omega), if_pos rfl]
theorem nd6_2 : nd6 node n x0 x1 x2 x3 x4 x5 (6 * n + 2) = x2 := by unfold nd6; rw [if_neg (by omega), if_neg (by omega), if_pos rfl]
theorem nd6_3 : nd6 node n x0 x1 x2 x3 x4 x5 (6 * n + 3) = x3 := by unfold nd6; rw [if_neg (by omega), if_neg (by omega), if_neg (by omega), if_pos rfl]
theorem nd6_4 : nd6 node n x0 x1 x2 x3 x4 x5 (6 * n + 4) = x4 := by unfold nd6; rw [if_neg (by omega), if_neg (by omega), if_neg (by omega), if_neg (by omega), if_pos rfl]
theorem nd6_5 : nd6 node n x0 x1 x2 x3 x4 x5 (6 * n + 5) = x5 := by unfold nd6; rw [if_neg (by omega), if_neg (by omega), if_neg (by omega), if_neg (by omega), if_neg (by omega), if_pos rfl]
theorem DG_add (hG : DG node n nw nd wi sn ns code cm) (hn : n ≤ 11) (h1 : nw ≤ nw') (h1' : nw' ≤ 6) (h2 : nd ≤ nd') (h2' : nd' ≤ 4) (hc : ∀ j, j < 40 * nd → code' j = code j) (hm : ∀ j, j < nd → cm' j = cm j)
    (hB : NB (nd6 node n x0 x1 x2 x3 x4 x5) nw' nd' ns code' cm' n) (hw : x0 = 0 → x5 = (nw : Int)) (hf1 : ∀ j, j < n → ¬ (node (6 * j + 3) = x3 ∧ node (6 * j + 4) = x4)) (hf2 : ∀ j, j < ns → ¬ (wi j = x3 ∧ sn j = x4)) :
    DG (nd6 node n x0 x1 x2 x3 x4 x5) (n + 1) nw' nd' wi sn ns code' cm' := by
  obtain ⟨g1, g2, g3, g4, g5, g6, g7, g8, g9, g10⟩ := id hG
  have hwn := hG.wn
  refine ⟨by omega, h1', h2', g4, fun k hk => ?_, ?_, g7, ?_, g9, ?_⟩
  · by_cases z : k = n
    · rw [z]; exact hB
    · exact NB_cong (g5 k (by omega)) (fun i hi => nd6_o (by omega)) h1 h2 (Nat.le_refl ns) hc hm
  · have old : ∀ k, k < n → node (6 * k) = 0 → node (6 * k + 5) < nw := fun k hk q => by
      have := (g5 k hk).1
      omega
    intro k k' hk hk' q q' e
    by_cases z : k = n <;> by_cases z' : k' = n
    · omega
    · subst z
      rw [nd6_0] at q
      rw [nd6_5, nd6_o (by omega)] at e
      rw [nd6_o (by omega)] at q'
      have := old k' (by omega) q'
      have := hw q
      omega
    · subst z'
      rw [nd6_0] at q'
      rw [nd6_5, nd6_o (by omega)] at e
      rw [nd6_o (by omega)] at q
      have := old k (by omega) q
      have := hw q'
      omega
    · rw [nd6_o (by omega)] at q q'
      rw [nd6_o (by omega), nd6_o (by omega)] at e
      exact g6 k k' (by omega) (by omega) q q' e
  · intro j k hj hk e1 e2
    by_cases z : j = n <;> by_cases z' : k = n
    · omega
    · subst z
      rw [nd6_3, nd6_o (by omega)] at e1
      rw [nd6_4, nd6_o (by omega)] at e2
      exact absurd ⟨e1.symm, e2.symm⟩ (hf1 k (by omega))
    · subst z'
      rw [nd6_3, nd6_o (by omega)] at e1
      rw [nd6_4, nd6_o (by omega)] at e2
      exact absurd ⟨e1, e2⟩ (hf1 j (by omega))
    · rw [nd6_o (by omega), nd6_o (by omega)] at e1 e2
      exact g8 j k (by omega) (by omega) e1 e2
  · intro j k hj hk e1 e2
    by_cases z : j = n
    · subst z
      rw [nd6_3] at e1
      rw [nd6_4] at e2
      exact hf2 k hk ⟨e1.symm, e2.symm⟩
    · rw [nd6_o (by omega)] at e1 e2
      exact g10 j k (by omega) hk e1 e2
end MUa
theorem de_cong : ∀ k i, (∀ j, j < k → wi' j = wi j) → de wi' k i = de wi k i
  | 0, _, _ => rfl
  | k + 1, i, q => by
    show (if i = k then (if wi' k < 0 then 1 else de wi' k (wi' k).toNat + 1) else de wi' k i) = (if i = k then (if wi k < 0 then 1 else de wi k (wi k).toNat + 1) else de wi k i)
    rw [q k (by omega), de_cong k _ (fun j hj => q j (by omega)), de_cong k i (fun j hj => q j (by omega))]
theorem dep_up (hx : x = -9 ∨ (0 ≤ x ∧ x < ns)) : dep (up wi ns op) (ns + 1) x = dep wi ns x := by
  unfold dep
  split
  · rfl
  · have e1 := de_st (wi := up wi ns op) (i := x.toNat) ns (by omega) 1
    rw [e1, de_cong ns x.toNat (fun j hj => up_o (by omega))]
theorem dep_new (hx : op = -9 ∨ (0 ≤ op ∧ op < ns)) : dep (up wi ns op) (ns + 1) (ns : Int) = dep wi ns op + 1 := by
  unfold dep
  rw [if_neg (by omega), Int.toNat_natCast, de_at, up_s]
  split
  · rfl
  · rw [de_cong ns op.toNat (fun j hj => up_o (by omega))]
theorem DG_scope (hG : DG node n nw nd wi sn ns code cm) (hs : ns ≤ 5) (hx : op = -9 ∨ (0 ≤ op ∧ op < ns)) (hd : dep wi ns op ≤ 3) (hy : 0 ≤ y ∧ y ≤ 25) (hf1 : ∀ j, j < n → ¬ (node (6 * j + 3) = op ∧ node (6 * j + 4) = y)) (hf2 : ∀ j, j < ns → ¬ (wi j = op ∧ sn j = y)) :
    DG node n nw nd (up wi ns op) (up sn ns y) (ns + 1) code cm := by
  obtain ⟨g1, g2, g3, g4, g5, g6, g7, g8, g9, g10⟩ := id hG
  refine ⟨g1, g2, g3, by omega, fun k hk => NB_cong (g5 k hk) (fun _ _ => rfl) (Nat.le_refl _) (Nat.le_refl _) (by omega) (fun _ _ => rfl) (fun _ _ => rfl), g6, fun k hk => ?_, g8, ?_, ?_⟩
  · by_cases z : k = ns
    · subst z
      rw [up_s, up_s]
      have e := dep_new (wi := wi) hx
      unfold dep at e
      rw [if_neg (by omega), Int.toNat_natCast] at e
      refine ⟨by omega, hy.1, hy.2, ?_⟩
      rw [e]
      unfold dep at hd
      omega
    · rw [up_o z, up_o z]
      obtain ⟨q1, q2, q3, q4⟩ := g7 k (by omega)
      have e1 := de_st (wi := up wi ns op) (i := k) ns (by omega) 1
      refine ⟨q1, q2, q3, ?_⟩
      rw [e1, de_cong ns k (fun j hj => up_o (by omega))]
      exact q4
  · intro j k hj hk e1 e2
    by_cases z : j = ns <;> by_cases z' : k = ns
    · omega
    · subst z
      rw [up_s, up_o z'] at e1
      rw [up_s, up_o z'] at e2
      exact absurd ⟨e1.symm, e2.symm⟩ (hf2 k (by omega))
    · subst z'
      rw [up_s, up_o z] at e1
      rw [up_s, up_o z] at e2
      exact absurd ⟨e1, e2⟩ (hf2 j (by omega))
    · rw [up_o z, up_o z'] at e1 e2
      exact g9 j k (by omega) (by omega) e1 e2
  · intro j k hj hk e1 e2
    by_cases z : k = ns
    · subst z
      rw [up_s] at e1 e2
      exact hf1 j hj ⟨e1, e2⟩
    · rw [up_o z] at e1 e2
      exact g10 j k hj (by omega) e1 e2
/-- nothing of this name is there -/
theorem nmv_free (h1 : nmv node n wi sn ns x y = -9) : (∀ j, j < n → ¬ (node (6 * j + 3) = x ∧ node (6 * j + 4) = y)) ∧ ∀ j, j < ns → ¬ (wi j = x ∧ sn j = y) := by
  have b1 : fN node n x y = -9 ∨ (0 ≤ fN node n x y ∧ fN node n x y < n) := fN_b
  have b2 : fS wi sn ns x y = -9 ∨ (0 ≤ fS wi sn ns x y ∧ fS wi sn ns x y < ns) := fS_b
  have h2 : fN node n x y = -9 := by
    apply Classical.byContradiction
    intro z
    have : nmv node n wi sn ns x y = fN node n x y := if_pos z
    omega
  have h3 : fS wi sn ns x y = -9 := by
    apply Classical.byContradiction
    intro z
    have : nmv node n wi sn ns x y = 100 + fS wi sn ns x y := by unfold nmv nmc; rw [if_neg (by omega), if_pos z]
    omega
  refine ⟨fun j hj q => ?_, fun j hj q => ?_⟩
  · rcases has_fnd (f := fun k => node (6 * k + 3)) (q := fun k => node (6 * k + 4)) (x := x) (c := y) n with ⟨k, k1, k2, k3, k4⟩ | ⟨k1, -⟩
    · have : fN node n x y = (k : Int) := k4
      omega
    · exact k1 j hj q
  · rcases has_fnd (f := wi) (q := sn) (x := x) (c := y) ns with ⟨k, k1, k2, k3, k4⟩ | ⟨k1, -⟩
    · have : fS wi sn ns x y = (k : Int) := k4
      omega
    · exact k1 j hj q
end MU
