/-! ===== both sides answer alike: questions ===== -/
section LH
variable {h g : jH} {node wi sn code cm s past : Nat → Int} {n nw nd ns u D : Nat} {K : Int}
/-- between two calls -/
def IE (h : jH) (K : Int) : Prop := ∃ (D : Nat) (node : Nat → Int) (n nw nd : Nat) (wi sn : Nat → Int) (ns : Nat) (code cm s past : Nat → Int) (u : Nat), IV h D node n nw nd wi sn ns code cm s past u K
theorem IK.grow {i r : Nat} {K' : Int} (hI : IK h node n K i r) (hK : K ≤ K') : IK h node n K' i r := ⟨hI.1, hI.2.1, fun z => ⟨(hI.2.2 z).1, (hI.2.2 z).2.grow hK⟩⟩
theorem IV.grow {K' : Int} (hI : IV h D node n nw nd wi sn ns code cm s past u K) (hK : K ≤ K') : IV h D node n nw nd wi sn ns code cm s past u K' := by
  obtain ⟨v1, v2, ⟨v6, v7, v8⟩, ⟨v9, v10, v11⟩, v12, v13, v14, v15⟩ := hI
  exact ⟨v1, v2, ⟨v6, v7, v8.grow hK⟩, ⟨v9.grow hK, v10, v11⟩, v12.grow hK, v13.grow hK, v14, v15⟩
theorem IV.ie (hI : IV h D node n nw nd wi sn ns code cm s past u K) : IE h (K + 1) := ⟨D, node, n, nw, nd, wi, sn, ns, code, cm, s, past, u, hI.grow (by omega)⟩
/-- the second side answers as the first did -/
def PR (M9 : jM) (d9 : Nat) (a9 : List jA) (K : Int) (v : Option jA) (g : jH) : Prop := ∃ z : Int, v = some (.inl z) ∧ (jS g 476).1 = 9 ∧ Ex M9 d9 a9 g 0 0 (fun v' g' => v' = some (.inl z) ∧ IE g' (K + 1))
theorem pair_q {M8 M9 : jM} {a8 a9 : List jA} {d8 d9 : Nat} {ok : Prop} {S : Int → Prop} (hS : ∀ a b, S a → S b → a = b) (hI : IV h D node n nw nd wi sn ns code cm s past u K)
    (h8 : Ex M8 d8 a8 h 0 0 (fun v g => XF h g ∧ ∃ z, v = some (.inl z) ∧ QR ok S z))
    (h9 : ∀ g, IV g D node n nw nd wi sn ns code cm s past u K → Ex M9 d9 a9 g 0 0 (fun v g' => XF g g' ∧ ∃ z, v = some (.inl z) ∧ QR ok S z)) :
    Ex M8 d8 a8 h 0 0 (PR M9 d9 a9 K) := by
  refine Ex.mono h8 ?_
  rintro v g ⟨xf, z, rfl, hz⟩
  refine ⟨z, rfl, (hI.xf xf).x.mk.x, Ex.mono (h9 g (hI.xf xf)) ?_⟩
  rintro v' g' ⟨xf2, z', rfl, hz'⟩
  exact ⟨by rw [QR.uniq hS hz' hz], ((hI.xf xf).xf xf2).ie⟩
theorem eqS {x : Int} : ∀ a b : Int, a = x → b = x → a = b := fun a b h1 h2 => h1.trans h2.symm
theorem pair_next {d d' : Nat} {a b c : Int} (hI : IE h K) : Ex MX8_next (d + 4) [.inr 2, .inl a, .inl b, .inl c] h 0 0 (PR MX9_next_ (d' + 5) [.inr 476, .inl a, .inl b, .inl c] K) := by
  obtain ⟨D, node, n, nw, nd, wi, sn, ns, code, cm, s, past, u, hI⟩ := hI
  exact pair_q (fun _ _ => FM.uniq) hI (eX8_next hI) (fun g hJ => eX9_next_ hJ)
theorem pair_previous {d d' : Nat} {a b c : Int} (hI : IE h K) : Ex MX8_previous (d + 4) [.inr 2, .inl a, .inl b, .inl c] h 0 0 (PR MX9_previous (d' + 5) [.inr 476, .inl a, .inl b, .inl c] K) := by
  obtain ⟨D, node, n, nw, nd, wi, sn, ns, code, cm, s, past, u, hI⟩ := hI
  exact pair_q (fun _ _ => FG.uniq) hI (eX8_previous hI) (fun g hJ => eX9_previous hJ)
theorem pair_first {d d' : Nat} {a b c : Int} (hI : IE h K) : Ex MX8_first (d + 4) [.inr 2, .inl a, .inl b, .inl c] h 0 0 (PR MX9_first (d' + 5) [.inr 476, .inl a, .inl b, .inl c] K) := by
  obtain ⟨D, node, n, nw, nd, wi, sn, ns, code, cm, s, past, u, hI⟩ := hI
  exact pair_q (fun _ _ => FM.uniq) hI (eX8_first hI) (fun g hJ => eX9_first hJ)
theorem pair_holds {d d' : Nat} {a b c : Int} (hI : IE h K) : Ex MX8_holds (d + 4) [.inr 2, .inl a, .inl b, .inl c] h 0 0 (PR MX9_holds (d' + 5) [.inr 476, .inl a, .inl b, .inl c] K) := by
  obtain ⟨D, node, n, nw, nd, wi, sn, ns, code, cm, s, past, u, hI⟩ := hI
  exact pair_q (fun _ _ => FM.uniq) hI (eX8_holds hI) (fun g hJ => eX9_holds hJ)
theorem pair_edges {d d' : Nat} {a b c e : Int} (hI : IE h K) : Ex MX8_edges (d + 4) [.inr 2, .inl a, .inl b, .inl c, .inl e] h 0 0 (PR MX9_edges (d' + 5) [.inr 476, .inl a, .inl b, .inl c, .inl e] K) := by
  obtain ⟨D, node, n, nw, nd, wi, sn, ns, code, cm, s, past, u, hI⟩ := hI
  exact pair_q eqS hI (eX8_edges hI) (fun g hJ => eX9_edges hJ)
theorem pair_delay {d d' : Nat} {a b : Int} (hI : IE h K) : Ex MX8_delay (d + 4) [.inr 2, .inl a, .inl b] h 0 0 (PR MX9_delay (d' + 5) [.inr 476, .inl a, .inl b] K) := by
  obtain ⟨D, node, n, nw, nd, wi, sn, ns, code, cm, s, past, u, hI⟩ := hI
  exact pair_q (fun _ _ => FM.uniq) hI (eX8_delay hI) (fun g hJ => eX9_delay hJ)
theorem pair_ticks {d d' : Nat} {a b : Int} (hI : IE h K) : Ex MX8_ticks (d + 4) [.inr 2, .inl a, .inl b] h 0 0 (PR MX9_ticks (d' + 4) [.inr 476, .inl a, .inl b] K) := by
  obtain ⟨D, node, n, nw, nd, wi, sn, ns, code, cm, s, past, u, hI⟩ := hI
  exact pair_q (fun _ _ => tkS.uniq) hI (eX8_ticks hI) (fun g hJ => eX9_ticks hJ)
theorem pair_at {d d' : Nat} {a b : Int} (hI : IE h K) : Ex MX8_at (d + 4) [.inr 2, .inl a, .inl b] h 0 0 (PR MX9_at (d' + 4) [.inr 476, .inl a, .inl b] K) := by
  obtain ⟨D, node, n, nw, nd, wi, sn, ns, code, cm, s, past, u, hI⟩ := hI
  exact pair_q eqS hI (eX8_at hI) (fun g hJ => eX9_at hJ)
theorem pair_jump {d d' : Nat} {a : Int} (hI : IE h K) : Ex MX8_jump (d + 1) [.inr 2, .inl a] h 0 0 (PR MX9_jump (d' + 2) [.inr 476, .inl a] K) := by
  obtain ⟨D, node, n, nw, nd, wi, sn, ns, code, cm, s, past, u, hI⟩ := hI
  exact pair_q eqS hI (eX8_jump hI) (fun g hJ => eX9_jump hJ)
theorem pair_about {d d' : Nat} {a b : Int} (hI : IE h K) : Ex MX8_about (d + 3) [.inr 2, .inl a, .inl b] h 0 0 (PR MX9_about (d' + 3) [.inr 476, .inl a, .inl b] K) := by
  obtain ⟨D, node, n, nw, nd, wi, sn, ns, code, cm, s, past, u, hI⟩ := hI
  exact pair_q eqS hI (eX8_about hI) (fun g hJ => eX9_about hJ)
theorem pair_scope {d d' : Nat} {a b : Int} (hI : IE h K) : Ex MX8_scope (d + 1) [.inr 2, .inl a, .inl b] h 0 0 (PR MX9_scope (d' + 1) [.inr 476, .inl a, .inl b] K) := by
  obtain ⟨D, node, n, nw, nd, wi, sn, ns, code, cm, s, past, u, hI⟩ := hI
  exact pair_q eqS hI (eX8_scope hI) (fun g hJ => eX9_scope hJ)
end LH
