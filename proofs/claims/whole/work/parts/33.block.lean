/-! ===== frames of heaps; Arrays.fill; SignalWaves$Block ===== -/
section KD
variable {h g : jH}
/-- from h to g nothing has changed but ints, int elements and reference elements in [lo, hi) -/
def Fr (lo hi : Nat) (h g : jH) : Prop := jP g = jP h ∧ jS g = jS h ∧ jN g = jN h ∧ ∀ a, (a < lo ∨ hi ≤ a) → jI g a = jI h a ∧ jX g a = jX h a ∧ jY g a = jY h a
theorem Fr.rf {lo hi : Nat} : Fr lo hi h h := ⟨rfl, rfl, rfl, fun _ _ => ⟨rfl, rfl, rfl⟩⟩
theorem Fr.trans {lo hi : Nat} {k : jH} (h1 : Fr lo hi h g) (h2 : Fr lo hi g k) : Fr lo hi h k :=
  ⟨h2.1.trans h1.1, h2.2.1.trans h1.2.1, h2.2.2.1.trans h1.2.2.1, fun a ha => ⟨(h2.2.2.2 a ha).1.trans (h1.2.2.2 a ha).1, (h2.2.2.2 a ha).2.1.trans (h1.2.2.2 a ha).2.1, (h2.2.2.2 a ha).2.2.trans (h1.2.2.2 a ha).2.2⟩⟩
theorem Fr.wide {lo hi lo' hi' : Nat} (h1 : Fr lo hi h g) (hl : lo' ≤ lo) (hh : hi ≤ hi') : Fr lo' hi' h g :=
  ⟨h1.1, h1.2.1, h1.2.2.1, fun a ha => h1.2.2.2 a (by omega)⟩
theorem Fr.sI {lo hi a k : Nat} {v : Int} (h1 : lo ≤ a) (h2 : a < hi) : Fr lo hi h (jsI h a k v) :=
  ⟨rfl, rfl, rfl, fun b hb => ⟨funext fun j => by rw [jI_sI, if_neg (by omega)], rfl, rfl⟩⟩
theorem Fr.sX {lo hi a k : Nat} {v : Int} (h1 : lo ≤ a) (h2 : a < hi) : Fr lo hi h (jsX h a k v) :=
  ⟨rfl, rfl, rfl, fun b hb => ⟨rfl, funext fun j => by rw [jX_sX, if_neg (by omega)], rfl⟩⟩
theorem Fr.sY {lo hi a k v : Nat} (h1 : lo ≤ a) (h2 : a < hi) : Fr lo hi h (jsY h a k v) :=
  ⟨rfl, rfl, rfl, fun b hb => ⟨rfl, rfl, funext fun j => by rw [jY_sY, if_neg (by omega)]⟩⟩
theorem Fr.fil {lo hi a u v : Nat} {f : Nat → Int} (h1 : lo ≤ a) (h2 : a < hi) : Fr lo hi h (jfil h a u v f) :=
  ⟨rfl, rfl, rfl, fun b hb => ⟨rfl, funext fun j => by rw [jX_fil, if_neg (by omega)], rfl⟩⟩
theorem Fr.cpy {lo hi a0 sp a dp n : Nat} (h1 : lo ≤ a) (h2 : a < hi) : Fr lo hi h (jcpy h a0 sp a dp n) :=
  ⟨rfl, rfl, rfl, fun b hb => ⟨rfl, funext fun j => by rw [jX_cpy, if_neg (by omega)], rfl⟩⟩
theorem eJ7_fill {d a N : Nat} {v : Int} (hS : (jS h a).1 = 16) (hN : (jS h a).2 = N) (hN2 : N ≤ 1000) :
    Ex MJ7_fill_53178 d [.inr a, .inl v] h 0 0 (fun r g => r = none ∧ g = jfil h a 0 N (fun _ => v)) := by
  refine Ex_of_V tJ7_fill_53178 (Nat.le_of_ble_eq_true rfl) ?_
  apply bJ7_fill_53178_0
  case s1 => exact hS
  have key : ∀ k i : Nat, i + k = N → V MJ7_fill_53178 d 5 [some (.inr a), some (.inl v), some (.inl (i : Int)), some (.inl (((jS h a).2 : Nat) : Int))] [] (jfil h a 0 i (fun _ => v)) 0 0 (fun r g => r = none ∧ g = jfil h a 0 N (fun _ => v)) := by
    intro k
    induction k with
    | zero =>
      intro i hi
      obtain rfl : i = N := by omega
      apply bJ7_fill_53178_5
      case q1 => intro _; exact ⟨rfl, rfl⟩
      all_goals (intros; first | assumption | omega)
    | succ k ih =>
      intro i hi
      apply bJ7_fill_53178_5
      case q1 => intro q; omega
      case s1 => exact hS
      case s2 => intro _; omega
      case s3 => intro _; show (i : Int) < ((jS h a).2 : Int); omega
      case r1 => intro _; exact ⟨by omega, by omega⟩
      case k1 =>
        intro _
        rw [Int.toNat_natCast, jfil_s rfl (Nat.zero_le i)]
        exact ih (i + 1) (by omega)
  have h9 := key N 0 (by omega)
  rw [jfil_0] at h9
  exact h9
/-- the skeleton of a block: where its arrays lie -/
def BK (h : jH) (B : Nat) : Prop := (jS h B).1 = 0 ∧ jP h B 2 = B + 1 ∧ jP h B 3 = B + 2 ∧ jS h (B + 1) = (16, 12) ∧ (jS h (B + 2)).1 = 1 ∧ jP h (B + 2) 1 = B + 3 ∧ jP h (B + 2) 2 = B + 4 ∧ jP h (B + 2) 3 = B + 5 ∧ jS h (B + 3) = (16, 8) ∧ jS h (B + 4) = (16, 8) ∧ jS h (B + 5) = (16, 8)
theorem BK.ch {B : Nat} (hB : BK h B) : CH h (B + 2) 8 := by
  obtain ⟨-, -, -, -, b5, b6, b7, b8, b9, b10, b11⟩ := hB
  refine ⟨b5, ?_, ?_, ?_, ?_, ?_, ?_⟩
  · rw [b6, b9]
  · rw [b6, b9]
  · rw [b7, b10]
  · rw [b7, b10]
  · rw [b8, b11]
  · rw [b8, b11]
theorem BK.chin {B : Nat} (hB : BK h B) : chin h (B + 2) := by
  obtain ⟨-, -, -, -, -, b6, b7, b8, -⟩ := hB
  refine ⟨?_, ?_, ?_⟩ <;> simp only [b6, b7, b8] <;> omega
theorem BK.chap {B C : Nat} (hB : BK h B) (hC : BK h C) (hne : B + 5 < C ∨ C + 5 < B) : chap h (B + 2) (C + 2) := by
  obtain ⟨-, -, -, -, -, b6, b7, b8, -⟩ := hB
  obtain ⟨-, -, -, -, -, c6, c7, c8, -⟩ := hC
  intro i j i1 i3 j1 j3
  have hb : jP h (B + 2) i = B + 2 + i := by
    rcases (show i = 1 ∨ i = 2 ∨ i = 3 by omega) with rfl | rfl | rfl <;> omega
  have hc : jP h (C + 2) j = C + 2 + j := by
    rcases (show j = 1 ∨ j = 2 ∨ j = 3 by omega) with rfl | rfl | rfl <;> omega
  omega
/-- Block.restart(time, values): from the cells at hand -/
def blrs (h : jH) (B : Nat) (t : Int) (vs : Nat) : jH := jsI (jcpy (jsI (jsI h B 0 t) B 1 (-9)) vs 0 (B + 1) 0 12) (B + 2) 0 0
theorem eX0_restart {d B vs : Nat} {t : Int} (hB : BK h B) (hv : jS h vs = (16, 12)) :
    Ex MX0_restart d [.inr B, .inl t, .inr vs] h 0 0 (fun r g => r = none ∧ g = blrs h B t vs) := by
  obtain ⟨b1, b2, b3, b4, b5, -⟩ := hB
  refine Ex_of_V tX0_restart (Nat.le_of_ble_eq_true rfl) ?_
  apply bX0_restart_0
  case q1 => unfold blrs; rw [← b2, ← b3]; exact ⟨rfl, rfl⟩
  all_goals (first | assumption | (rw [b2, b4]; done) | (rw [b3, b5]; done) | (rw [b2, b4]; decide) | (rw [hv]; done) | (rw [hv]; decide) | (rw [b3]; exact b5))
end KD
