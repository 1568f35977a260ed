/-! ===== class: terms and expressions ===== -/
section MS2
variable {h g h0 : jH} {b : Nat → Int} {c : Nat} {node wi sn code cm cw ci : Nat → Int} {n nw nd ns D p t m L : Nat}
/-- frames while the class reads an expression -/
def CF (D n : Nat) (h g : jH) : Prop :=
  jP g = jP h ∧ jS g = jS h ∧ jN g = jN h ∧ jY g = jY h ∧ (∀ a, a ≠ D + 8 + n → a ≠ D + 20 → jX g a = jX h a) ∧ (∀ k, k ≠ n → jX g (D + 20) k = jX h (D + 20) k) ∧ (∀ a, a ≠ 3 → a ≠ 49 → jI g a = jI h a) ∧ (∀ k, k < 2 → jI g 3 k = jI h 3 k) ∧ ∀ k, k < 3 → jI g 49 k = jI h 49 k
theorem CF.rf : CF D n h h := ⟨rfl, rfl, rfl, rfl, fun _ _ _ => rfl, fun _ _ => rfl, fun _ _ _ => rfl, fun _ _ => rfl, fun _ _ => rfl⟩
theorem CF.trans {k : jH} (h1 : CF D n h g) (h2 : CF D n g k) : CF D n h k :=
  ⟨h2.1.trans h1.1, h2.2.1.trans h1.2.1, h2.2.2.1.trans h1.2.2.1, h2.2.2.2.1.trans h1.2.2.2.1, fun a x y => (h2.2.2.2.2.1 a x y).trans (h1.2.2.2.2.1 a x y), fun a x => (h2.2.2.2.2.2.1 a x).trans (h1.2.2.2.2.2.1 a x), fun a x y => (h2.2.2.2.2.2.2.1 a x y).trans (h1.2.2.2.2.2.2.1 a x y), fun a x => (h2.2.2.2.2.2.2.2.1 a x).trans (h1.2.2.2.2.2.2.2.1 a x), fun a x => (h2.2.2.2.2.2.2.2.2 a x).trans (h1.2.2.2.2.2.2.2.2 a x)⟩
theorem TF.cf (f : TF h g) : CF D n h g :=
  ⟨f.1, f.2.1, f.2.2.1, f.2.2.2.1, fun a _ _ => by rw [f.2.2.2.2.1], fun k _ => by rw [f.2.2.2.2.1], fun a x _ => f.2.2.2.2.2.1 a x, fun k x => f.2.2.2.2.2.2 k x, fun k x => by rw [f.2.2.2.2.2.1 49 (by omega)]⟩
theorem CF.s49 {k : Nat} {v : Int} (hk : 3 ≤ k) : CF D n h (jsI h 49 k v) :=
  ⟨rfl, rfl, rfl, rfl, fun _ _ _ => rfl, fun _ _ => rfl, fun a _ y => funext fun j => by rw [jI_sI, if_neg (fun z => y z.1)], fun j x => by rw [jI_sI, if_neg (by omega)], fun j x => by rw [jI_sI, if_neg (by omega)]⟩
/-- what the class's reader stands on -/
def CBS (h : jH) (D : Nat) (b : Nat → Int) (c : Nat) (node : Nat → Int) (n nw nd : Nat) (wi sn : Nat → Int) (ns : Nat) (code cm : Nat → Int) : Prop :=
  RDC h D ∧ TXC h b c ∧ DK h D ∧ DY h D ∧ (D = 5 ∨ D = 27) ∧ DRep h D node n nw nd wi sn ns code cm ∧ DG node n nw nd wi sn ns code cm ∧ n ≤ 11
theorem CBS.cf (hB : CBS h D b c node n nw nd wi sn ns code cm) (f : CF D n h g) : CBS g D b c node n nw nd wi sn ns code cm := by
  obtain ⟨b1, b2, b3, b4, b5, b6, b7, b8⟩ := hB
  refine ⟨?_, ?_, ?_, ?_, b5, ?_, b7, b8⟩
  · unfold RDC; rw [f.1, f.2.1]; exact b1
  · unfold TXC; rw [f.1, f.2.1, f.2.2.2.2.2.2.2.1 1 (by omega), f.2.2.2.2.1 4 (by omega) (by omega)]; exact b2
  · unfold DK; rw [f.1, f.2.1]; exact b3
  · unfold DY; rw [f.2.2.2.1]; exact b4
  · obtain ⟨r0, r1, r2, r3, r4, r5⟩ := b6
    have eI : jI g D = jI h D := f.2.2.2.2.2.2.1 D (by omega) (by omega)
    have eX : ∀ a, a ≠ D + 8 + n → a ≠ D + 20 → jX g a = jX h a := f.2.2.2.2.1
    refine ⟨by rw [eI]; exact r0, by rw [eI]; exact r1, by rw [eI]; exact r2, by rw [eI]; exact r3, fun k hk => ?_, fun k hk => by rw [eX (D + 5) (by omega) (by omega), eX (D + 6) (by omega) (by omega)]; exact r5 k hk⟩
    obtain ⟨n1, n2, n3, n4, n5, n6⟩ := r4 k hk
    refine ⟨by rw [eX (D + 1) (by omega) (by omega)]; exact n1, by rw [eX (D + 3) (by omega) (by omega)]; exact n2, by rw [eX (D + 4) (by omega) (by omega)]; exact n3, by rw [eX (D + 2) (by omega) (by omega)]; exact n4, by rw [eX (D + 2) (by omega) (by omega)]; exact n5, fun q => ?_⟩
    rw [f.2.2.2.2.2.1 k (by omega), eX (D + 8 + k) (by omega) (by omega)]
    exact n6 q
/-- the height of the stack behind the first steps -/
def hq (cw : Nat → Int) : Nat → Nat
  | 0 => 0
  | j + 1 => if cw j = 2 then hq cw j else if cw j = 3 then hq cw j - 1 else hq cw j + 1
theorem hq_up {k : Int} : ∀ j, j ≤ L → hq (up cw L k) j = hq cw j
  | 0, _ => rfl
  | j + 1, q => by
    unfold hq
    rw [up_o (show j ≠ L by omega), hq_up j (by omega)]
theorem hq_s {k : Int} : hq (up cw L k) (L + 1) = if k = 2 then hq cw L else if k = 3 then hq cw L - 1 else hq cw L + 1 := by
  conv => lhs; unfold hq
  rw [up_s, hq_up L (Nat.le_refl L)]
def HS (cw ci : Nat → Int) (L n t : Nat) : Prop := hq cw L ≤ t ∧ ∀ j, j < L → hq cw (j + 1) ≤ 6 ∧ ((cw j = 0 ∧ 0 ≤ ci j ∧ ci j ≤ 255) ∨ (cw j = 1 ∧ 0 ≤ ci j ∧ ci j < n) ∨ (cw j = 2 ∧ 1 ≤ hq cw j) ∨ (cw j = 3 ∧ 2 ≤ hq cw j ∧ isop (ci j)))
theorem HS_up {k v : Int} {t' : Nat} (hH : HS cw ci L n t) (h1 : hq (up cw L k) (L + 1) ≤ t') (h6 : hq (up cw L k) (L + 1) ≤ 6) (hk : (k = 0 ∧ 0 ≤ v ∧ v ≤ 255) ∨ (k = 1 ∧ 0 ≤ v ∧ v < n) ∨ (k = 2 ∧ 1 ≤ hq cw L) ∨ (k = 3 ∧ 2 ≤ hq cw L ∧ isop v)) : HS (up cw L k) (up ci L v) (L + 1) n t' := by
  refine ⟨h1, fun j hj => ?_⟩
  by_cases z : j = L
  · subst z
    rw [up_s, up_s, hq_up j (Nat.le_refl j)]
    exact ⟨h6, hk⟩
  · rw [up_o z, up_o z, hq_up j (by omega), hq_up (j + 1) (by omega)]
    exact hH.2 j (by omega)
/-- the class's state in an expression -/
def CXS (h0 : jH) (D n : Nat) (h : jH) (b : Nat → Int) (c p t m L : Nat) (cw ci : Nat → Int) : Prop :=
  CF D n h0 h ∧ TXP h b c p ∧ jI h 49 3 = (t : Int) ∧ jI h 49 4 = (m : Int) ∧ jX h (D + 20) n = (L : Int) ∧ ∀ j, j < L → jX h (D + 8 + n) j = enc (cw j) (ci j)
theorem CXS.nx {q : Nat} (hC : CXS h0 D n h b c p t m L cw ci) (f : TF h g) (hq : TXP g b c q) : CXS h0 D n g b c q t m L cw ci := by
  obtain ⟨c1, c2, c3, c4, c5, c6⟩ := hC
  have e : jI g 49 = jI h 49 := f.2.2.2.2.2.1 49 (by omega)
  refine ⟨c1.trans f.cf, hq, by rw [e]; exact c3, by rw [e]; exact c4, ?_⟩
  rw [f.2.2.2.2.1]
  exact ⟨c5, c6⟩
theorem CXS.m1 (hC : CXS h0 D n h b c p t m L cw ci) : CXS h0 D n (jsI h 49 4 ((m : Int) + 1)) b c p t (m + 1) L cw ci := by
  obtain ⟨c1, c2, c3, c4, c5, c6⟩ := hC
  refine ⟨c1.trans (CF.s49 (by omega)), ⟨c2.1, ?_, ?_, ?_⟩, ?_, ?_, c5, c6⟩
  · rw [jI_sI, if_neg (by omega)]; exact c2.2.1
  · rw [jI_sI, if_neg (by omega)]; exact c2.2.2.1
  · rw [jI_sI, if_neg (by omega)]; exact c2.2.2.2
  · rw [jI_sI, if_neg (by omega)]; exact c3
  · rw [jI_sI, if_pos ⟨rfl, rfl⟩]; omega
theorem CXS.t1 (hC : CXS h0 D n h b c p t m L cw ci) : CXS h0 D n (jsI h 49 3 ((t : Int) + 1)) b c p (t + 1) m L cw ci := by
  obtain ⟨c1, c2, c3, c4, c5, c6⟩ := hC
  refine ⟨c1.trans (CF.s49 (by omega)), ⟨c2.1, ?_, ?_, ?_⟩, ?_, ?_, c5, c6⟩
  · rw [jI_sI, if_neg (by omega)]; exact c2.2.1
  · rw [jI_sI, if_neg (by omega)]; exact c2.2.2.1
  · rw [jI_sI, if_neg (by omega)]; exact c2.2.2.2
  · rw [jI_sI, if_pos ⟨rfl, rfl⟩]; omega
  · rw [jI_sI, if_neg (by omega)]; exact c4
theorem eX2_addCode {d : Nat} {k v x : Int} (hB : CBS h0 D b c node n nw nd wi sn ns code cm) (hC : CXS h0 D n h b c p t m L cw ci) (hL : L < 17) (hx : x = enc k v) :
    Ex MX2_addCode d [.inr D, .inl x] h 0 0 (fun r g => r = none ∧ CXS h0 D n g b c p t m (L + 1) (up cw L k) (up ci L v)) := by
  have hB2 := hB.cf hC.1
  obtain ⟨b1, b2, b3, b4, b5, b6, b7, b8⟩ := hB2
  obtain ⟨e0, e1, e2, e3, e4, e5, e6, e7, e8, e9, e10, e11, e12, e13, e14, e15, e16, e17, e18, e19⟩ := id b3
  obtain ⟨c1, c2, c3, c4, c5, c6⟩ := hC
  have n0 := b6.1
  have ey : jY h (jP h D 10) ((((n : Nat) : Int)).toNat) = D + 8 + n := by rw [e7, Int.toNat_natCast]; exact b4 n (by omega)
  have eL : jX h (jP h D 11) ((((n : Nat) : Int)).toNat) = (L : Int) := by rw [e8, Int.toNat_natCast]; exact c5
  have eL2 : jX (jsX h (D + 8 + n) L x) (D + 20) n = (L : Int) := by rw [jX_sX, if_neg (by omega)]; exact c5
  have es := e19 n (by omega)
  refine Ex_of_V tX2_addCode (Nat.le_of_ble_eq_true rfl) ?_
  apply bX2_addCode_0
  case q1 => rw [n0]; intro z; omega
  case q2 => rw [n0, eL]; intro _ z; omega
  case q3 =>
    rw [n0, eL, ey, e8, Int.toNat_natCast, Int.toNat_natCast, eL2]
    intro _ _
    refine ⟨rfl, c1.trans ⟨rfl, rfl, rfl, rfl, fun a x y => ?_, fun k hk => ?_, fun _ _ _ => rfl, fun _ _ => rfl, fun _ _ => rfl⟩, c2, c3, c4, ?_, fun j hj => ?_⟩
    · funext i; rw [jX_sX, if_neg (fun z => y z.1), jX_sX, if_neg (fun z => x z.1)]
    · rw [jX_sX, if_neg (fun z => hk z.2), jX_sX, if_neg (by omega)]
    · rw [jX_sX, if_pos ⟨rfl, rfl⟩]; omega
    · rw [jX_sX, if_neg (by omega), jX_sX]
      by_cases z : j = L
      · rw [if_pos ⟨rfl, z⟩, z, up_s, up_s]; exact hx
      · rw [if_neg (fun y => z y.2), up_o z, up_o z]; exact c6 j (by omega)
  case r1 =>
    rw [n0, eL, ey, e8, Int.toNat_natCast, Int.toNat_natCast, eL2]
    intro _ _
    exact ⟨by omega, by omega⟩
  all_goals (try rw [n0])
  all_goals (try rw [eL])
  all_goals first
    | exact e0
    | (rw [e8, e17]; done)
    | (rw [e7, e16]; done)
    | (intros; omega)
    | (intros; rw [e8, e17]; refine Int.lt_of_le_of_lt (b := 11) ?_ (by decide); omega)
    | (intros; rw [e7, e16]; refine Int.lt_of_le_of_lt (b := 11) ?_ (by decide); omega)
    | (intros; rw [ey, es]; done)
    | (intros; rw [ey, es]; refine Int.lt_of_le_of_lt (b := 16) ?_ (by decide); omega)
theorem tva_num (hb : byt b c) (hs : tso b c p = 2) : 0 ≤ tva b c p ∧ tva b c p ≤ 255 := by
  rcases tok (b := b) (c := c) (p := p) with ⟨h1, h2, h3⟩ | ⟨h1, h2, h3, h4⟩ | ⟨h1, h2, h3, h4, h5⟩ | ⟨h1, h2, h3, h4, h5, h6, h7⟩ | ⟨h1, h2, h3, h4, h5, h6⟩
  · omega
  · have h5 := tnu_d hb h1 h2
    unfold tnu at h5
    rw [if_pos hs] at h5
    obtain ⟨c1, c2, c3, c4⟩ := tcv_b (p := p) hb.2 (tdg b c p - p) (tdg_fg (by omega) _ (by have := tdg_le (b := b) (c := c) (p := p) (by omega); omega))
    have h6 : tva b c p = tcv b p (tdg b c p - p) := by unfold tva; rw [if_pos h2]
    split at h5
    · omega
    · split at h5
      · omega
      · omega
  · omega
  · omega
  · omega
theorem ppf_b (hb : byt b c) : ∀ k p x, p ≤ c → p ≤ (ppf node n wi sn ns b c k p x).2 ∧ (ppf node n wi sn ns b c k p x).2 ≤ c ∧ ((ppf node n wi sn ns b c k p x).1 ≠ -9 → p < (ppf node n wi sn ns b c k p x).2 ∧ 0 ≤ (ppf node n wi sn ns b c k p x).1 ∧ (ppf node n wi sn ns b c k p x).1 < n)
  | 0, p, x, hp => ⟨Nat.le_refl _, hp, fun q => absurd rfl q⟩
  | k + 1, p, x, hp => by
    by_cases h1 : tso b c p = 1
    · have hlt : p < c := tso_lt (b := b) (by rw [h1]; decide)
      have hn := tnx_b (b := b) hp
      by_cases h2 : fN node n x (tva b c p) = -9
      · by_cases h3 : fS wi sn ns x (tva b c p) = -9
        · rw [ppf_2 h1 h2 h3]; exact ⟨Nat.le_refl _, hp, fun q => absurd rfl q⟩
        · by_cases h4 : tso b c (tnx b c p) = 3 ∧ tva b c (tnx b c p) = 46
          · rw [ppf_4 h1 h2 h3 h4]
            have hn2 := tnx_b (b := b) hn.1
            have hlt2 : tnx b c p < c := tso_lt (b := b) (by rw [h4.1]; decide)
            have ih := ppf_b hb k (tnx b c (tnx b c p)) (fS wi sn ns x (tva b c p)) hn2.1
            have i1 := hn.2 hlt
            have i2 := hn2.2 hlt2
            exact ⟨by omega, ih.2.1, fun q => ⟨by have := (ih.2.2 q).1; omega, (ih.2.2 q).2⟩⟩
          · rw [ppf_3 h1 h2 h3 h4]; exact ⟨by have := hn.2 hlt; omega, hn.1, fun q => absurd rfl q⟩
      · rw [ppf_1 h1 h2]
        have hb1 : fN node n x (tva b c p) = -9 ∨ (0 ≤ fN node n x (tva b c p) ∧ fN node n x (tva b c p) < n) := fN_b
        exact ⟨by have := hn.2 hlt; omega, hn.1, fun _ => ⟨hn.2 hlt, by omega⟩⟩
    · rw [ppf_0 h1]; exact ⟨Nat.le_refl _, hp, fun q => absurd rfl q⟩
/-- the model stands on the same text and design -/
def MOD (g1 : jH) (b : Nat → Int) (c nd : Nat) (node : Nat → Int) (n : Nat) (wi sn : Nat → Int) (ns : Nat) : Prop := TXM g1 b c ∧ jI g1 476 24 = (nd : Int) ∧ NDR g1 node n wi sn ns
def CRel (p t m L : Nat) (cw : Nat → Int) (q t' m' L' : Nat) (cw' : Nat → Int) : Prop := p < q ∧ t ≤ t' ∧ t' ≤ 6 ∧ m ≤ m' ∧ m' ≤ 6 ∧ L' + 2 * t + m + 1 ≤ L + 2 * t' + m' ∧ hq cw' L' = hq cw L + 1
def par (W : List Int) : Prop := W = [] ∨ ∃ r, W = 40 :: r
/-- behind a term -/
def TPost (h0 : jH) (D n : Nat) (b : Nat → Int) (c nd : Nat) (node : Nat → Int) (wi sn : Nat → Int) (ns p t m L : Nat) (cw ci : Nat → Int) (r : Option jA) (g : jH) : Prop :=
  (r = some (.inl 1) ∧ ∃ (q t' m' L' : Nat) (cw' ci' : Nat → Int), CXS h0 D n g b c q t' m' L' cw' ci' ∧ CRel p t m L cw q t' m' L' cw' ∧ HS cw' ci' L' n t' ∧ ∀ (d : Nat) (g1 : jH) (Q : Option jA → jH → Prop) (W : List Int), MOD g1 b c nd node n wi sn ns → MW d g1 nd b c Q q W t' m' L' cw' ci' → MT d g1 nd b c Q p W t m L cw ci) ∨
  (r = some (.inl 0) ∧ ∃ f : Nat, CF D n h0 g ∧ (jI g 3 2 = (f : Int) ∧ f ≤ c) ∧ ∀ (d : Nat) (g1 : jH) (Q : Option jA → jH → Prop) (W : List Int), MOD g1 b c nd node n wi sn ns → MQF g1 nd Q f → MT d g1 nd b c Q p W t m L cw ci)
/-- behind an expression -/
def EPost (h0 : jH) (D n : Nat) (b : Nat → Int) (c nd : Nat) (node : Nat → Int) (wi sn : Nat → Int) (ns p t m L : Nat) (cw ci : Nat → Int) (r : Option jA) (g : jH) : Prop :=
  (r = some (.inl 1) ∧ ∃ (q t' m' L' : Nat) (cw' ci' : Nat → Int), CXS h0 D n g b c q t' m' L' cw' ci' ∧ CRel p t m L cw q t' m' L' cw' ∧ HS cw' ci' L' n t' ∧ ¬ (tso b c q = 3 ∧ isop (tva b c q)) ∧ ∀ (d : Nat) (g1 : jH) (Q : Option jA → jH → Prop) (W : List Int), par W → MOD g1 b c nd node n wi sn ns → MA d g1 nd b c Q q W t' m' L' cw' ci' → MT d g1 nd b c Q p W t m L cw ci) ∨
  (r = some (.inl 0) ∧ ∃ f : Nat, CF D n h0 g ∧ (jI g 3 2 = (f : Int) ∧ f ≤ c) ∧ ∀ (d : Nat) (g1 : jH) (Q : Option jA → jH → Prop) (W : List Int), par W → MOD g1 b c nd node n wi sn ns → MQF g1 nd Q f → MT d g1 nd b c Q p W t m L cw ci)
def CPre (cw ci : Nat → Int) (n t m L : Nat) : Prop := t ≤ 6 ∧ L ≤ 2 * t + m ∧ HS cw ci L n t
/-- terms, with so many marks left -/
def RTP (h0 : jH) (D n : Nat) (b : Nat → Int) (c nd : Nat) (node wi sn : Nat → Int) (ns k : Nat) : Prop :=
  ∀ (d : Nat) (h : jH) (p t m L : Nat) (cw ci : Nat → Int), m + k = 6 → CXS h0 D n h b c p t m L cw ci → CPre cw ci n t m L → Ex MX5_readTerm (d + 8 + 2 * k) [.inr 49] h 0 0 (TPost h0 D n b c nd node wi sn ns p t m L cw ci)
def REP (h0 : jH) (D n : Nat) (b : Nat → Int) (c nd : Nat) (node wi sn : Nat → Int) (ns k : Nat) : Prop :=
  ∀ (d : Nat) (h : jH) (p t m L : Nat) (cw ci : Nat → Int), m + k = 6 → CXS h0 D n h b c p t m L cw ci → CPre cw ci n t m L → Ex MX5_readExpression (d + 9 + 2 * k) [.inr 49] h 0 0 (EPost h0 D n b c nd node wi sn ns p t m L cw ci)
/-- an expression is made of terms -/
theorem REP_of {k : Nat} (hB : CBS h0 D b c node n nw nd wi sn ns code cm) (hnd : nd ≤ 3) (hT : ∀ j, j ≤ k → RTP h0 D n b c nd node wi sn ns j) : REP h0 D n b c nd node wi sn ns k := by
  intro d h p t m L cw ci hmk hC hpre
  have hc := hB.2.1.2.2.2.2.1.1
  -- any term of it
  have term : ∀ (h : jH) (p t m1 L : Nat) (cw ci : Nat → Int), m ≤ m1 → m1 ≤ 6 → CXS h0 D n h b c p t m1 L cw ci → CPre cw ci n t m1 L → Ex MX5_readTerm (d + 8 + 2 * k) [.inr 49] h 0 0 (TPost h0 D n b c nd node wi sn ns p t m1 L cw ci) := by
    intro h p t m1 L cw ci h1 h2 hC hpre
    have h9 := hT (6 - m1) (by omega) (d + 2 * (k - (6 - m1))) h p t m1 L cw ci (by omega) hC hpre
    rw [show d + 2 * (k - (6 - m1)) + 8 + 2 * (6 - m1) = d + 8 + 2 * k by omega] at h9
    exact h9
  refine Ex_of_V tX5_readExpression (Nat.le_of_ble_eq_true rfl) ?_
  rw [show d + 9 + 2 * k = (d + 1 + 2 * k) + 8 by omega]
  -- behind a term
  have loop : ∀ w q : Nat, q + w = 160 → ∀ (i1 : Nat) (h1 : jH) (t' m' L' : Nat) (cw' ci' : Nat → Int) u2, i1 < q → q ≤ c → CXS h0 D n h1 b c q t' m' L' cw' ci' → CRel p t m L cw q t' m' L' cw' → HS cw' ci' L' n t' → (∀ (d : Nat) (g1 : jH) (Q : Option jA → jH → Prop) (W : List Int), par W → MOD g1 b c nd node n wi sn ns → MA d g1 nd b c Q q W t' m' L' cw' ci' → MT d g1 nd b c Q p W t m L cw ci) → V MX5_readExpression (d + 1 + 2 * k + 8) 11 [some (.inr 49), some (.inl (i1 : Int)), u2] [] h1 0 0 (EPost h0 D n b c nd node wi sn ns p t m L cw ci) := by
    intro w
    induction w using Nat.strongRecOn with
    | ind w ih =>
      intro q hqw i1 h1 t' m' L' cw' ci' u2 hi hqc hC1 hR1 hH1 hM1
      have hB1 := hB.cf hC1.1
      obtain ⟨b1, b2, b3, b4, b5, b6, b7, b8⟩ := id hB1
      have esg : jI h1 (jP h1 49 0) 4 = tsg b c q := by rw [b1.2.1]; exact hC1.2.1.2.2.2
      obtain ⟨r1, r2, r3, r4, r5, r6, r7⟩ := id hR1
      have isn : ∀ x : Int, isop x → sgn x := fun x hx => by unfold isop at hx; unfold sgn; omega
      apply bX5_readExpression_11
      case q1 => intro z; omega
      case q2 =>
        rw [esg]
        intro _ z
        refine Or.inl ⟨rfl, q, t', m', L', cw', ci', hC1, hR1, hH1, fun y => z ?_, hM1⟩
        have := (lk_s (b := b) (c := c) (p := q) (isn _ y.2)).mpr ⟨y.1, rfl⟩
        rw [this]
        exact y.2
      case e1 =>
        rw [esg, b1.2.1]
        intro _ z
        have hop : isop (tsg b c q) := z
        obtain ⟨hs, hv⟩ := (lk_s (b := b) (c := c) (p := q) (isn _ hop)).mp rfl
        have hqlt : q < c := tso_lt (b := b) (by rw [hs]; decide)
        have hnx := tnx_b (b := b) (c := c) hqc
        refine Ex.mono (eX7_toNext b2 (ten_b hC1.2.1.1).1 hC1.2.1.2.2.1) ?_
        rintro r h2 ⟨rfl, f2, hp2⟩
        have hC2 := hC1.nx f2 hp2
        have hB2 := hB.cf hC2.1
        apply bX5_readExpression_46 (dr := d + 8 + 2 * k)
        case hdr => omega
        case s1 => exact hB2.1.1
        case e1 =>
          refine Ex.mono (term h2 (tnx b c q) t' m' L' cw' ci' r4 r5 hC2 ⟨by omega, by obtain ⟨p1, p2, p3⟩ := hpre; omega, hH1⟩) ?_
          rintro r h3 (⟨rfl, q3, t3, m3, L3, cw3, ci3, hC3, hR3, hH3, hM3⟩ | ⟨rfl, f, hF, hf, hM3⟩)
          · obtain ⟨s1, s2, s3, s4, s5, s6, s7⟩ := id hR3
            have hB3 := hB.cf hC3.1
            have hop2 : tsg b c q = 38 ∨ tsg b c q = 124 ∨ tsg b c q = 94 ∨ tsg b c q = 43 ∨ tsg b c q = 45 := hop
            have hpl : L ≤ 2 * t + m := hpre.2.1
            apply bX5_readExpression_50
            case q1 => intro y; exact absurd y (by decide)
            case r1 => intro _; exact ⟨by omega, by omega⟩
            case e1 =>
              intro _
              rw [hB3.1.2.2]
              refine Ex.mono (eX2_addCode (k := 3) (v := tsg b c q) hB hC3 (by omega) (by unfold enc; rw [if_neg (by decide), if_neg (by decide), if_neg (by decide)])) ?_
              rintro r h4 ⟨rfl, hC4⟩
              have e3 : hq (up cw3 L3 3) (L3 + 1) = hq cw3 L3 - 1 := by rw [hq_s, if_neg (by decide), if_pos rfl]
              have hh3 := hH3.1
              have hp3 := hC3.2.1.1
              apply bX5_readExpression_64
              case r1 => exact ⟨by omega, by omega⟩
              case k1 =>
                rw [show (i1 : Int) + 1 = ((i1 + 1 : Nat) : Int) by omega]
                have hnlt := hnx.2 hqlt
                refine ih (160 - q3) (by omega) q3 (by omega) (i1 + 1) h4 t3 m3 (L3 + 1) _ _ _ (by omega) (by omega) hC4 ⟨by omega, by omega, s3, by omega, s5, by omega, by rw [e3]; omega⟩ (HS_up hH3 (by rw [e3]; omega) (by rw [e3]; omega) (Or.inr (Or.inr (Or.inr ⟨rfl, by omega, hop⟩)))) ?_
                intro d' g1 Q W hW hMD hk
                refine hM1 d' g1 Q W hW hMD ?_
                refine MA_op hMD.1 hs (by rw [hv]; exact hop) ?_
                rw [hv]
                refine hM3 d' g1 Q (tsg b c q :: W) hMD ?_
                rw [MW_op (by omega) (by omega)]
                exact hk
            all_goals first
              | exact hB3.1.1
              | (rw [hB3.1.2.2]; exact hB3.2.2.1.1)
              | (intros; rw [hB3.1.2.2]; exact hB3.2.2.1.1)
          · have hB3 := hB.cf hF
            apply bX5_readExpression_50
            case q1 =>
              intro _
              refine Or.inr ⟨rfl, f, hF, hf, fun d' g1 Q W hW hMD hk => ?_⟩
              refine hM1 d' g1 Q W hW hMD ?_
              refine MA_op hMD.1 hs (by rw [hv]; exact hop) ?_
              exact hM3 d' g1 Q _ hMD hk
            case r1 => intro y; exact absurd rfl y
            case e1 => intro y; exact absurd rfl y
            all_goals first
              | exact hB3.1.1
              | (rw [hB3.1.2.2]; exact hB3.2.2.1.1)
              | (intros; rw [hB3.1.2.2]; exact hB3.2.2.1.1)
      all_goals first
        | exact b1.1
        | (rw [b1.2.1]; exact b2.1)
  apply bX5_readExpression_0 (dr := d + 8 + 2 * k)
  case hdr => omega
  case s1 => exact (hB.cf hC.1).1.1
  case e1 =>
    refine Ex.mono (term h p t m L cw ci (Nat.le_refl m) (by omega) hC hpre) ?_
    rintro r h1 (⟨rfl, q1, t1, m1, L1, cw1, ci1, hC1, hR1, hH1, hM1⟩ | ⟨rfl, f, hF, hf, hM1⟩)
    · apply bX5_readExpression_4
      case q1 => intro y; exact absurd y (by decide)
      case k1 =>
        intro _
        have hq1 := hC1.2.1.1
        exact loop (160 - q1) q1 (by omega) 0 h1 t1 m1 L1 cw1 ci1 _ (by have := hR1.1; omega) hq1 hC1 hR1 hH1 (fun d' g1 Q W hW hMD hk => hM1 d' g1 Q W hMD (by rw [MW_par hW]; exact hk))
    · apply bX5_readExpression_4
      case q1 => intro _; exact Or.inr ⟨rfl, f, hF, hf, fun d' g1 Q W _ hMD hk => hM1 d' g1 Q W hMD hk⟩
      case k1 => intro y; exact absurd rfl y
end MS2
