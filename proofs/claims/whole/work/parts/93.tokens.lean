/-! ===== tokens of a text ===== -/
section MM
variable {h g : jH} {b : Nat → Int} {c : Nat}
def fgd (b : Nat → Int) (c p : Nat) : Prop := p < c ∧ 48 ≤ b p ∧ b p ≤ 57
def tskf (b : Nat → Int) (c : Nat) : Nat → Nat → Nat
  | 0, p => p
  | k + 1, p => if p < c ∧ b p = 32 then tskf b c k (p + 1) else p
def tdgf (b : Nat → Int) (c : Nat) : Nat → Nat → Nat
  | 0, p => p
  | k + 1, p => if p < c ∧ 48 ≤ b p ∧ b p ≤ 57 then tdgf b c k (p + 1) else p
/-- behind the spaces -/
def tsk (b : Nat → Int) (c p : Nat) : Nat := tskf b c (c - p) p
/-- behind the figures -/
def tdg (b : Nat → Int) (c p : Nat) : Nat := tdgf b c (c - p) p
theorem tsk_y {p : Nat} (h1 : p < c) (h2 : b p = 32) : tsk b c p = tsk b c (p + 1) := by
  unfold tsk
  rw [show c - p = (c - (p + 1)) + 1 by omega]
  conv => lhs; unfold tskf
  rw [if_pos ⟨h1, h2⟩]
theorem tsk_n {p : Nat} (h1 : ¬ (p < c ∧ b p = 32)) : tsk b c p = p := by
  unfold tsk
  cases c - p with
  | zero => rfl
  | succ k => unfold tskf; rw [if_neg h1]
theorem tdg_y {p : Nat} (h1 : fgd b c p) : tdg b c p = tdg b c (p + 1) := by
  unfold tdg
  have := h1.1
  rw [show c - p = (c - (p + 1)) + 1 by omega]
  conv => lhs; unfold tdgf
  rw [if_pos (show p < c ∧ 48 ≤ b p ∧ b p ≤ 57 from h1)]
theorem tdg_n {p : Nat} (h1 : ¬ fgd b c p) : tdg b c p = p := by
  unfold tdg
  cases c - p with
  | zero => rfl
  | succ k => unfold tdgf; rw [if_neg (show ¬ (p < c ∧ 48 ≤ b p ∧ b p ≤ 57) from h1)]
theorem tsk_b : ∀ k p : Nat, p + k = c → p ≤ tsk b c p ∧ tsk b c p ≤ c
  | 0, p, q => by rw [tsk_n (fun y => by omega)]; omega
  | k + 1, p, q => by
    by_cases z : p < c ∧ b p = 32
    · rw [tsk_y z.1 z.2]; have := tsk_b k (p + 1) (by omega); omega
    · rw [tsk_n z]; omega
theorem tdg_b : ∀ k p : Nat, p + k = c → p ≤ tdg b c p ∧ tdg b c p ≤ c
  | 0, p, q => by rw [tdg_n (fun y => by have := y.1; omega)]; omega
  | k + 1, p, q => by
    by_cases z : fgd b c p
    · rw [tdg_y z]; have := tdg_b k (p + 1) (by omega); omega
    · rw [tdg_n z]; omega
theorem tsk_le {p : Nat} (hp : p ≤ c) : p ≤ tsk b c p ∧ tsk b c p ≤ c := tsk_b (c - p) p (by omega)
theorem tdg_le {p : Nat} (hp : p ≤ c) : p ≤ tdg b c p ∧ tdg b c p ≤ c := tdg_b (c - p) p (by omega)
/-- the token's end, its sign; and its sort and value as the model has them -/
def ten (b : Nat → Int) (c p : Nat) : Nat := if p < c then (if 48 ≤ b p ∧ b p ≤ 57 then tdg b c p else p + 1) else c
def tsg (b : Nat → Int) (c p : Nat) : Int := if p < c then b p else -9
def tcv (b : Nat → Int) (p : Nat) : Nat → Int
  | 0 => 0
  | m + 1 => if tcv b p m ≤ 255 then 10 * tcv b p m + b (p + m) - 48 else 256
def tdv (b : Nat → Int) (p : Nat) : Nat → Int
  | 0 => 0
  | m + 1 => 10 * tdv b p m + b (p + m) - 48
def sgn (x : Int) : Prop := x = 91 ∨ x = 93 ∨ x = 58 ∨ x = 64 ∨ x = 61 ∨ x = 46 ∨ x = 38 ∨ x = 124 ∨ x = 94 ∨ x = 43 ∨ x = 45 ∨ x = 33 ∨ x = 40 ∨ x = 41 ∨ x = 59
def tso (b : Nat → Int) (c p : Nat) : Int :=
  if p < c then (if 48 ≤ b p ∧ b p ≤ 57 then (if 255 < tcv b p (tdg b c p - p) then 5 else if b p = 48 ∧ p + 1 < tdg b c p then 5 else 2)
    else if 97 ≤ b p ∧ b p ≤ 122 then 1 else if b p = 91 ∨ b p = 93 ∨ b p = 58 ∨ b p = 64 ∨ b p = 61 ∨ b p = 46 ∨ b p = 38 ∨ b p = 124 ∨ b p = 94 ∨ b p = 43 ∨ b p = 45 ∨ b p = 33 ∨ b p = 40 ∨ b p = 41 ∨ b p = 59 then 3 else 5) else 4
def tva (b : Nat → Int) (c p : Nat) : Int := if 48 ≤ b p ∧ b p ≤ 57 then tcv b p (tdg b c p - p) else if 97 ≤ b p ∧ b p ≤ 122 then b p - 97 else b p
/-- the next token behind the one at p -/
def tnx (b : Nat → Int) (c p : Nat) : Nat := tsk b c (ten b c p)
theorem ten_b {p : Nat} (hp : p ≤ c) : ten b c p ≤ c ∧ (p < c → p < ten b c p) := by
  unfold ten
  by_cases z : p < c
  · rw [if_pos z]
    by_cases z2 : 48 ≤ b p ∧ b p ≤ 57
    · rw [if_pos z2, tdg_y ⟨z, z2⟩]
      have := tdg_le (b := b) (c := c) (p := p + 1) (by omega)
      omega
    · rw [if_neg z2]; omega
  · rw [if_neg z]; omega
theorem tnx_b {p : Nat} (hp : p ≤ c) : tnx b c p ≤ c ∧ (p < c → p < tnx b c p) := by
  have h1 := ten_b (b := b) hp
  have h2 := tsk_le (b := b) h1.1
  unfold tnx
  omega
/-- the text's bytes -/
def byt (b : Nat → Int) (c : Nat) : Prop := c ≤ 160 ∧ ∀ i, i < c → 0 ≤ b i ∧ b i ≤ 255
theorem tcv_b {p : Nat} (hb : ∀ i, i < c → 0 ≤ b i ∧ b i ≤ 255) : ∀ m, (∀ i, i < m → fgd b c (p + i)) → (0 ≤ tcv b p m ∧ tcv b p m ≤ 2559) ∧ 0 ≤ tdv b p m ∧ (tcv b p m ≤ 255 → tcv b p m = tdv b p m) ∧ (255 < tcv b p m → 255 < tdv b p m)
  | 0, _ => ⟨⟨Int.le_refl _, show (0 : Int) ≤ 2559 by decide⟩, Int.le_refl _, fun _ => rfl, fun q => absurd (show (255 : Int) < 0 from q) (by decide)⟩
  | m + 1, q => by
    obtain ⟨⟨h1, h1'⟩, h2, h3, h4⟩ := tcv_b hb m (fun i hi => q i (by omega))
    have hf := (q m (by omega)).2
    unfold tcv tdv
    by_cases z : tcv b p m ≤ 255
    · rw [if_pos z]
      have := h3 z
      refine ⟨⟨by omega, by omega⟩, by omega, fun _ => by omega, fun _ => by omega⟩
    · rw [if_neg z]
      have := h4 (by omega)
      refine ⟨⟨by omega, by omega⟩, by omega, fun y => by omega, fun _ => by omega⟩
theorem tdg_f : ∀ k p : Nat, p + k = c → ∀ i, p ≤ i → i < tdg b c p → fgd b c i
  | 0, p, q, i, h1, h2 => by rw [tdg_n (fun y => by have := y.1; omega)] at h2; omega
  | k + 1, p, q, i, h1, h2 => by
    by_cases z : fgd b c p
    · by_cases y : i = p
      · rw [y]; exact z
      · rw [tdg_y z] at h2
        exact tdg_f k (p + 1) (by omega) i (by omega) h2
    · rw [tdg_n z] at h2; omega
theorem tdg_fg {p : Nat} (hp : p ≤ c) : ∀ m, p + m ≤ tdg b c p → ∀ i, i < m → fgd b c (p + i) := fun m hm i hi => tdg_f (c - p) p (by omega) (p + i) (by omega) (by omega)
/-- the frame of the text's walk -/
def TF (h g : jH) : Prop := jP g = jP h ∧ jS g = jS h ∧ jN g = jN h ∧ jY g = jY h ∧ jX g = jX h ∧ (∀ a, a ≠ 3 → jI g a = jI h a) ∧ ∀ k, k < 2 → jI g 3 k = jI h 3 k
theorem TF.rf : TF h h := ⟨rfl, rfl, rfl, rfl, rfl, fun _ _ => rfl, fun _ _ => rfl⟩
theorem TF.trans {k : jH} (h1 : TF h g) (h2 : TF g k) : TF h k :=
  ⟨h2.1.trans h1.1, h2.2.1.trans h1.2.1, h2.2.2.1.trans h1.2.2.1, h2.2.2.2.1.trans h1.2.2.2.1, h2.2.2.2.2.1.trans h1.2.2.2.2.1, fun a ha => (h2.2.2.2.2.2.1 a ha).trans (h1.2.2.2.2.2.1 a ha), fun a ha => (h2.2.2.2.2.2.2 a ha).trans (h1.2.2.2.2.2.2 a ha)⟩
theorem TF.sI {k : Nat} {v : Int} (hk : 2 ≤ k) : TF h (jsI h 3 k v) :=
  ⟨rfl, rfl, rfl, rfl, rfl, fun b hb => funext fun j => by rw [jI_sI, if_neg (show ¬ (b = 3 ∧ j = k) from fun z => hb z.1)], fun j hj => by rw [jI_sI, if_neg (show ¬ (3 = 3 ∧ j = k) from fun z => by omega)]⟩
/-- the text as the class has it -/
def TXC (h : jH) (b : Nat → Int) (c : Nat) : Prop := (jS h 3).1 = 7 ∧ jP h 3 0 = 4 ∧ jS h 4 = (16, 160) ∧ jI h 3 1 = (c : Int) ∧ byt b c ∧ ∀ i, i < c → jX h 4 i = b i
theorem TXC.tf (hT : TXC h b c) (f : TF h g) : TXC g b c := by
  unfold TXC
  rw [f.1, f.2.1, f.2.2.2.2.1, f.2.2.2.2.2.2 1 (by omega)]
  exact hT
/-- the text stands at the token at p -/
def TXP (h : jH) (b : Nat → Int) (c p : Nat) : Prop := p ≤ c ∧ jI h 3 2 = (p : Int) ∧ jI h 3 3 = (ten b c p : Int) ∧ jI h 3 4 = tsg b c p
theorem eX7_toNext {d e : Nat} (hT : TXC h b c) (he : e ≤ c) (h3 : jI h 3 3 = (e : Int)) :
    Ex MX7_toNext d [.inr 3] h 0 0 (fun r g => r = none ∧ TF h g ∧ TXP g b c (tsk b c e)) := by
  have hc := hT.2.2.2.2.1.1
  have hby := hT.2.2.2.2.1.2
  refine Ex_of_V tX7_toNext (Nat.le_of_ble_eq_true rfl) ?_
  -- the figures
  have figs : ∀ (p : Nat), p < c → 48 ≤ b p ∧ b p ≤ 57 → p = tsk b c e → ∀ w q : Nat, q + w = c → tdg b c p = tdg b c q → ∀ g : jH, TF h g → jI g 3 2 = (p : Int) → jI g 3 3 = (q : Int) → jI g 3 4 = b p → V MX7_toNext d 121 [some (.inr 3)] [] g 0 0 (fun r g => r = none ∧ TF h g ∧ TXP g b c (tsk b c e)) := by
    intro p hp hf hpe w
    induction w with
    | zero =>
      intro q hq hd g f g2 g3 g4
      have hG := hT.tf f
      apply bX7_toNext_121
      case k1 =>
        intro _
        apply bX7_toNext_173
        refine ⟨rfl, f, by rw [← hpe]; omega, by rw [← hpe]; exact g2, ?_, ?_⟩
        · rw [g3, ← hpe]
          unfold ten
          rw [if_pos hp, if_pos hf, hd, tdg_n (fun y => by have := y.1; omega)]
        · rw [g4, ← hpe]
          unfold tsg
          rw [if_pos hp]
      case k2 => rw [hG.2.2.2.1, g3]; intro z; omega
      case k3 => rw [hG.2.2.2.1, g3]; intro z; omega
      case k4 => rw [hG.2.2.2.1, g3]; intro z; omega
      all_goals (try rw [hG.2.2.2.1, g3])
      all_goals first
        | exact hG.1
        | (rw [hG.2.1, hG.2.2.1]; done)
        | (intro z; omega)
    | succ w ih =>
      intro q hq hd g f g2 g3 g4
      have hG := hT.tf f
      have eb : jX g (jP g 3 0) ((((q : Nat) : Int)).toNat) = b q := by rw [hG.2.1, Int.toNat_natCast]; exact hG.2.2.2.2.2 q (by omega)
      have stop : ¬ fgd b c q → V MX7_toNext d 173 [some (.inr 3)] [] g 0 0 (fun r g => r = none ∧ TF h g ∧ TXP g b c (tsk b c e)) := by
        intro y
        apply bX7_toNext_173
        refine ⟨rfl, f, by rw [← hpe]; omega, by rw [← hpe]; exact g2, ?_, ?_⟩
        · rw [g3, ← hpe]
          unfold ten
          rw [if_pos hp, if_pos hf, hd, tdg_n y]
        · rw [g4, ← hpe]
          unfold tsg
          rw [if_pos hp]
      apply bX7_toNext_121
      case k1 => rw [hG.2.2.2.1, g3]; intro z; omega
      case k2 => rw [hG.2.2.2.1, g3, eb]; intro _ z; exact stop (fun y => by have := y.2; omega)
      case k3 => rw [hG.2.2.2.1, g3, eb]; intro _ _ z; exact stop (fun y => by have := y.2; omega)
      case k4 =>
        rw [hG.2.2.2.1, g3, eb, show (q : Int) + 1 = ((q + 1 : Nat) : Int) by omega]
        intro _ z z2
        refine ih (q + 1) (by omega) (hd.trans (tdg_y ⟨by omega, by omega, by omega⟩)) _ (f.trans (TF.sI (by omega))) ?_ ?_ ?_
        · rw [jI_sI, if_neg (by omega)]; exact g2
        · rw [jI_sI, if_pos ⟨rfl, rfl⟩]
        · rw [jI_sI, if_neg (by omega)]; exact g4
      all_goals (try rw [hG.2.2.2.1, g3])
      all_goals (try rw [eb])
      all_goals first
        | exact hG.1
        | (rw [hG.2.1, hG.2.2.1]; done)
        | (intros; exact ⟨by omega, by omega⟩)
        | (intros; omega)
        | (intros; rw [g3]; omega)
        | (intros; rw [hG.2.1, hG.2.2.1]; refine Int.lt_of_le_of_lt (b := 159) ?_ (by decide); omega)
        | (intros; rw [g3, hG.2.1, hG.2.2.1]; refine Int.lt_of_le_of_lt (b := 159) ?_ (by decide); omega)
  -- behind the spaces
  have behind : ∀ g : jH, TF h g → jI g 3 2 = ((tsk b c e : Nat) : Int) → V MX7_toNext d 46 [some (.inr 3)] [] g 0 0 (fun r g => r = none ∧ TF h g ∧ TXP g b c (tsk b c e)) := by
    intro g f g2
    have hG := hT.tf f
    have hle := tsk_le (b := b) he
    have fin : ∀ p0 : Int, p0 = tsg b c (tsk b c e) → V MX7_toNext d 72 [some (.inr 3)] [.inl p0, .inr 3] g 0 0 (fun r g => r = none ∧ TF h g ∧ TXP g b c (tsk b c e)) := by
      intro p0 hp0
      apply bX7_toNext_72
      case k1 =>
        rw [hG.2.2.2.1, g2]
        intro z
        have hn : ¬ tsk b c e < c := by omega
        have hs : p0 = -9 := by rw [hp0]; unfold tsg; rw [if_neg hn]
        apply bX7_toNext_100
        case k1 =>
          intro _
          apply bX7_toNext_173
          refine ⟨rfl, (f.trans (TF.sI (by omega))).trans (TF.sI (by omega)), hle.2, ?_, ?_, ?_⟩
          · rw [jI_sI, if_neg (by omega), jI_sI, if_neg (by omega)]; exact g2
          · rw [jI_sI, if_pos ⟨rfl, rfl⟩]; unfold ten; rw [if_neg hn]
          · rw [jI_sI, if_neg (by omega), jI_sI, if_pos ⟨rfl, rfl⟩]; exact hp0
        case k2 => rw [jI_sI, if_pos ⟨rfl, rfl⟩]; intro z2; omega
        case k3 => rw [jI_sI, if_pos ⟨rfl, rfl⟩]; intro z2; omega
        all_goals exact hG.1
      case k2 =>
        rw [hG.2.2.2.1, g2]
        intro z
        have hn : tsk b c e < c := by omega
        have hs : p0 = b (tsk b c e) := by rw [hp0]; unfold tsg; rw [if_pos hn]
        have one : ¬ (48 ≤ p0 ∧ p0 ≤ 57) → V MX7_toNext d 173 [some (.inr 3)] [] (jsI (jsI g 3 4 p0) 3 3 (((tsk b c e : Nat) : Int) + 1)) 0 0 (fun r g => r = none ∧ TF h g ∧ TXP g b c (tsk b c e)) := by
          intro y
          apply bX7_toNext_173
          refine ⟨rfl, (f.trans (TF.sI (by omega))).trans (TF.sI (by omega)), hle.2, ?_, ?_, ?_⟩
          · rw [jI_sI, if_neg (by omega), jI_sI, if_neg (by omega)]; exact g2
          · rw [jI_sI, if_pos ⟨rfl, rfl⟩]; unfold ten; rw [if_pos hn, if_neg (by rw [← hs]; exact y)]; omega
          · rw [jI_sI, if_neg (by omega), jI_sI, if_pos ⟨rfl, rfl⟩]; exact hp0
        apply bX7_toNext_100
        case k1 => rw [jI_sI, if_pos ⟨rfl, rfl⟩]; intro y; exact one (by omega)
        case k2 => rw [jI_sI, if_pos ⟨rfl, rfl⟩]; intro _ y; exact one (by omega)
        case k3 =>
          rw [jI_sI, if_pos ⟨rfl, rfl⟩]
          intro y y2
          refine figs (tsk b c e) hn (by rw [← hs]; omega) rfl (c - (tsk b c e + 1)) (tsk b c e + 1) (by omega) (tdg_y ⟨hn, by rw [← hs]; omega⟩) _ ((f.trans (TF.sI (by omega))).trans (TF.sI (by omega))) ?_ ?_ ?_
          · rw [jI_sI, if_neg (by omega), jI_sI, if_neg (by omega)]; exact g2
          · rw [jI_sI, if_pos ⟨rfl, rfl⟩]; omega
          · rw [jI_sI, if_neg (by omega), jI_sI, if_pos ⟨rfl, rfl⟩]; exact hs
        all_goals exact hG.1
      all_goals (try rw [hG.2.2.2.1, g2])
      all_goals first
        | exact hG.1
        | (intros; exact ⟨by omega, by omega⟩)
    apply bX7_toNext_46
    case k1 => rw [hG.2.2.2.1, g2]; intro z; exact fin _ (by unfold tsg; rw [if_neg (by omega)])
    case k2 =>
      rw [hG.2.2.2.1, g2, hG.2.1, Int.toNat_natCast]
      intro z
      exact fin _ (by unfold tsg; rw [if_pos (by omega)]; exact hG.2.2.2.2.2 _ (by omega))
    all_goals (try rw [hG.2.2.2.1, g2])
    all_goals first
      | exact hG.1
      | (rw [hG.2.1, hG.2.2.1]; done)
      | (intros; omega)
      | (intros; rw [g2]; omega)
      | (intros; rw [hG.2.1, hG.2.2.1]; refine Int.lt_of_le_of_lt (b := 159) ?_ (by decide); omega)
  apply bX7_toNext_0
  case k1 =>
    rw [h3]
    have key : ∀ w q : Nat, q + w = c → tsk b c e = tsk b c q → ∀ g : jH, TF h g → jI g 3 2 = (q : Int) → V MX7_toNext d 8 [some (.inr 3)] [] g 0 0 (fun r g => r = none ∧ TF h g ∧ TXP g b c (tsk b c e)) := by
      intro w
      induction w with
      | zero =>
        intro q hq hk g f g2
        have hG := hT.tf f
        have e0 : tsk b c e = q := hk.trans (tsk_n (fun y => by omega))
        apply bX7_toNext_8
        case k1 => intro _; exact behind g f (by rw [e0]; exact g2)
        case k2 => rw [hG.2.2.2.1, g2]; intro z; omega
        case k3 => rw [hG.2.2.2.1, g2]; intro z; omega
        all_goals (try rw [hG.2.2.2.1, g2])
        all_goals first
          | exact hG.1
          | (rw [hG.2.1, hG.2.2.1]; done)
          | (intro z; omega)
      | succ w ih =>
        intro q hq hk g f g2
        have hG := hT.tf f
        have eb : jX g (jP g 3 0) ((((q : Nat) : Int)).toNat) = b q := by rw [hG.2.1, Int.toNat_natCast]; exact hG.2.2.2.2.2 q (by omega)
        apply bX7_toNext_8
        case k1 => rw [hG.2.2.2.1, g2]; intro z; omega
        case k2 =>
          rw [hG.2.2.2.1, g2, eb]
          intro _ z
          exact behind g f (by rw [hk, tsk_n (fun y => z y.2)]; exact g2)
        case k3 =>
          rw [hG.2.2.2.1, g2, eb, show (q : Int) + 1 = ((q + 1 : Nat) : Int) by omega]
          intro _ z
          exact ih (q + 1) (by omega) (hk.trans (tsk_y (by omega) z)) _ (f.trans (TF.sI (by omega))) (by rw [jI_sI, if_pos ⟨rfl, rfl⟩])
        all_goals (try rw [hG.2.2.2.1, g2])
        all_goals first
          | exact hG.1
          | (rw [hG.2.1, hG.2.2.1]; done)
          | (intros; exact ⟨by omega, by omega⟩)
          | (intros; omega)
          | (intros; rw [g2]; omega)
          | (intros; rw [hG.2.1, hG.2.2.1]; refine Int.lt_of_le_of_lt (b := 159) ?_ (by decide); omega)
    exact key (c - e) e (by omega) rfl _ (TF.sI (by omega)) (by rw [jI_sI, if_pos ⟨rfl, rfl⟩])
  all_goals first
    | exact hT.1
end MM
