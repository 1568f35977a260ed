/-! ===== model: the row of changes; the room of a block ===== -/
section LY
variable {h g : jH} {node wi sn code cm s past : Nat → Int} {n nw nd ns u D : Nat} {K : Int}
/-- the times and values of the changes of block b -/
def bT (s : Nat → Int) (b i : Nat) : Int := s (11 + 33 * b + 9 + 3 * i)
def bV (s : Nat → Int) (b i : Nat) : Int := s (11 + 33 * b + 9 + 3 * i + 2)
def bM (s : Nat → Int) (b : Nat) : Nat := (s (11 + 33 * b + 2)).toNat
theorem eX9_addsRow {d b r : Nat} (hM : MK h) (es : jX h 482 = s) (hb : b < 6) (hm : 0 ≤ s (11 + 33 * b + 2)) (hm8 : bM s b ≤ 8) (hr : jI h 476 45 = (r : Int)) (hr2 : r + bM s b ≤ 48) :
    Ex MX9_addsRow (d + 1) [.inr 476, .inl (b : Int)] h 0 0 (fun v g => v = none ∧ MF (fun b => b = 500 ∨ b = 501) (fun b => b = 45) h g ∧ jI g 476 45 = ((r + bM s b : Nat) : Int) ∧ (∀ k, jX g 500 k = if r ≤ k ∧ k < r + bM s b then bT s b (k - r) else jX h 500 k) ∧ (∀ k, jX g 501 k = if r ≤ k ∧ k < r + bM s b then bV s b (k - r) else jX h 501 k)) := by
  obtain ⟨m, em⟩ : ∃ m : Nat, s (11 + 33 * b + 2) = (m : Int) := ⟨_, (Int.toNat_of_nonneg hm).symm⟩
  have hbm : bM s b = m := by unfold bM; rw [em, Int.toNat_natCast]
  rw [hbm] at hm8 hr2 ⊢
  refine Ex_of_V tX9_addsRow (Nat.le_of_ble_eq_true rfl) ?_
  apply bX9_addsRow_0
  have t1 : (11 + 33 * (b : Int) + 2).toNat = 11 + 33 * b + 2 := by omega
  have key : ∀ c i : Nat, i + c = m → ∀ g : jH, MF (fun b => b = 500 ∨ b = 501) (fun b => b = 45) h g → jI g 476 45 = ((r + i : Nat) : Int) → (∀ k, jX g 500 k = if r ≤ k ∧ k < r + i then bT s b (k - r) else jX h 500 k) → (∀ k, jX g 501 k = if r ≤ k ∧ k < r + i then bV s b (k - r) else jX h 501 k) → V MX9_addsRow (d + 1) 2 [some (.inr 476), some (.inl (b : Int)), some (.inl (i : Int))] [] g 0 0 (fun v g => v = none ∧ MF (fun b => b = 500 ∨ b = 501) (fun b => b = 45) h g ∧ jI g 476 45 = ((r + m : Nat) : Int) ∧ (∀ k, jX g 500 k = if r ≤ k ∧ k < r + m then bT s b (k - r) else jX h 500 k) ∧ (∀ k, jX g 501 k = if r ≤ k ∧ k < r + m then bV s b (k - r) else jX h 501 k)) := by
    intro c
    induction c with
    | zero =>
      intro i hi g f e45 e500 e501
      obtain rfl : i = m := by omega
      have hM2 := f.mk hM
      have es2 : jX g 482 = s := (f.2.2.2.2.1 482 (by omega)).trans es
      apply bX9_addsRow_2
      case q1 => intro _; exact ⟨rfl, f, e45, e500, e501⟩
      case k1 => rw [hM2.p9, es2, t1, em]; intro z; omega
      all_goals (try rw [hM2.p9, es2, t1, em])
      all_goals (try rw [e45])
      all_goals first
        | exact hM2.x
        | (rw [hM2.p9, hM2.s482]; done)
        | (rw [hM2.s482]; done)
        | (rw [hM2.p43, hM2.s500]; done)
        | (rw [hM2.p44, hM2.s501]; done)
        | exact ⟨by omega, by omega⟩
        | (intros; exact ⟨by omega, by omega⟩)
        | (rw [hM2.p9, hM2.s482]; refine Int.lt_of_le_of_lt (b := 208) ?_ (by decide); omega)
        | (intros; omega)
    | succ c ih =>
      intro i hi g f e45 e500 e501
      have hM2 := f.mk hM
      have es2 : jX g 482 = s := (f.2.2.2.2.1 482 (by omega)).trans es
      have t2 : (11 + 33 * (b : Int) + 9 + 3 * (i : Int)).toNat = 11 + 33 * b + 9 + 3 * i := by omega
      have t3 : (11 + 33 * (b : Int) + 9 + 3 * (i : Int) + 2).toNat = 11 + 33 * b + 9 + 3 * i + 2 := by omega
      have e482 : ∀ k v, jX (jsX g 500 k v) 482 = s := fun k v => by
        funext j
        rw [jX_sX, if_neg (by omega), es2]
      apply bX9_addsRow_2
      case q1 => rw [hM2.p9, es2, t1, em]; intro z; omega
      case k1 =>
        intro _
        rw [hM2.p9, hM2.p43, hM2.p44, e45, e482, es2, t2, t3, Int.toNat_natCast, show (i : Int) + 1 = ((i + 1 : Nat) : Int) by omega]
        refine ih (i + 1) (by omega) _ (((f.trans (MF.sX (Or.inl rfl))).trans (MF.sX (Or.inr rfl))).trans (MF.sI rfl)) ?_ (fun k => ?_) (fun k => ?_)
        · rw [jI_sI, if_pos ⟨rfl, rfl⟩]; omega
        · rw [jX_sI, jX_sX, if_neg (by omega), jX_sX, e500]
          by_cases z : k = r + i
          · rw [if_pos ⟨rfl, z⟩, if_pos (by omega), show k - r = i by omega]
            rfl
          · rw [if_neg (fun y => z y.2)]
            by_cases z2 : r ≤ k ∧ k < r + i
            · rw [if_pos z2, if_pos (by omega)]
            · rw [if_neg z2, if_neg (by omega)]
        · rw [jX_sI, jX_sX]
          by_cases z : k = r + i
          · rw [if_pos ⟨rfl, z⟩, if_pos (by omega), show k - r = i by omega]
            rfl
          · rw [if_neg (fun y => z y.2), jX_sX, if_neg (by omega), e501]
            by_cases z2 : r ≤ k ∧ k < r + i
            · rw [if_pos z2, if_pos (by omega)]
            · rw [if_neg z2, if_neg (by omega)]
      all_goals (try rw [hM2.p9, es2, t1, em])
      all_goals (try rw [e45])
      all_goals first
        | exact hM2.x
        | (rw [hM2.p9, hM2.s482]; done)
        | (rw [hM2.s482]; done)
        | (rw [hM2.p43, hM2.s500]; done)
        | (rw [hM2.p44, hM2.s501]; done)
        | exact ⟨by omega, by omega⟩
        | (intros; exact ⟨by omega, by omega⟩)
        | (rw [hM2.p9, hM2.s482]; refine Int.lt_of_le_of_lt (b := 208) ?_ (by decide); omega)
        | (intros; rw [hM2.p9, hM2.s482]; refine Int.lt_of_le_of_lt (b := 208) ?_ (by decide); omega)
        | (intros; rw [hM2.s482]; refine Int.lt_of_le_of_lt (b := 208) ?_ (by decide); omega)
        | (intros; rw [hM2.p43, hM2.s500]; refine Int.lt_of_le_of_lt (b := 47) ?_ (by decide); omega)
        | (intros; rw [hM2.p44, hM2.s501]; refine Int.lt_of_le_of_lt (b := 47) ?_ (by decide); omega)
        | (intros; omega)
  exact key m 0 (by omega) h MF.rf (by rw [hr]; omega) (fun k => by rw [if_neg (by omega)]) (fun k => by rw [if_neg (by omega)])
/-- the room of block b -/
def rob (s : Nat → Int) (nw b : Nat) : Int := rm (bV s b) (bT s b) nw 0 (s (11 + 33 * b)) (bM s b)
theorem SB.tm {b : Nat} (hB : SB s node n b) {i : Nat} (hi : i < bM s b) : s (11 + 33 * b) ≤ bT s b i ∧ bT s b i ≤ s 0 ∧ (if i = 0 then s (11 + 33 * b) else bT s b (i - 1)) ≤ bT s b i := by
  obtain ⟨b1, b2, b3, b4, b5, b6, b7, b8⟩ := hB
  unfold bM at hi
  have h1 := b7 i (by omega)
  refine ⟨h1.1, h1.2.1, ?_⟩
  split
  · exact h1.1
  · have h2 := (b7 (i - 1) (by omega)).2.2.2.2.1 (by omega)
    rw [show i - 1 + 1 = i by omega] at h2
    exact h2
theorem eX9_roomOfBlock {d b : Nat} (hM : MK h) (es : jX h 482 = s) (hs : SI s node n K) (hb : (b : Int) < s 3) (hw : jI h 476 2 = (nw : Int)) (hnw : nw ≤ 6) :
    Ex MX9_roomOfBlock (d + 2) [.inr 476, .inl (b : Int)] h 0 0 (fun r g => r = some (.inl (rob s nw b)) ∧ MF (fun b => b = 500 ∨ b = 501 ∨ b = 502) (fun b => b = 45 ∨ b = 47) h g ∧ WS g (bV s b) 0 (bM s b) ∧ ∀ k, k < bM s b → jX g 501 k = bV s b k) := by
  obtain ⟨i0, i1, i2, i3, i4, i5, i6, i7, i8, i9, i10⟩ := id hs
  have hB := i10 b hb
  obtain ⟨b1, b2, b3, b4, b5, b6, b7, b8⟩ := id hB
  have hm8 : bM s b ≤ 8 := by unfold bM; omega
  refine Ex_of_V tX9_roomOfBlock (Nat.le_of_ble_eq_true rfl) ?_
  apply bX9_roomOfBlock_0
  case e1 =>
    have f0 : MF (fun b => b = 500 ∨ b = 501) (fun b => b = 45) h (jsI h 476 45 0) := MF.sI rfl
    refine Ex.mono (eX9_addsRow (r := 0) (f0.mk hM) es (by omega) b4 hm8 (by rw [jI_sI, if_pos ⟨rfl, rfl⟩]; rfl) (by omega)) ?_
    rintro v g ⟨rfl, f1, e45, e500, e501⟩
    have f := f0.trans f1
    have hM2 := f.mk hM
    have es2 : jX g 482 = s := (f.2.2.2.2.1 482 (by omega)).trans es
    have c1 : ∀ i, i < bM s b → jX g 501 (0 + i) = bV s b (0 + i) ∧ jX g 500 (0 + i) = bT s b (0 + i) := fun i hi => by
      rw [e500, e501, if_pos (by omega), if_pos (by omega)]
      exact ⟨rfl, rfl⟩
    have hw2 : jI g 476 2 = (nw : Int) := by rw [f.2.2.2.2.2.2 2 (by omega)]; exact hw
    apply bX9_roomOfBlock_10
    case e1 =>
      rw [e45, hM2.p9, es2, show (11 + 33 * (b : Int)).toNat = 11 + 33 * b by omega, Nat.zero_add]
      refine Ex.mono (eX9_roomOf (a := 0) (n := bM s b) (b := s (11 + 33 * b)) hM2 hm8 (by omega) hw2 hnw b1 (by omega) (fun i hi => ?_)) ?_
      · have h1 := hB.tm hi
        rw [(c1 i hi).2]
        by_cases z : i = 0
        · subst z
          rw [if_pos rfl, Nat.zero_add]
          exact ⟨by omega, by omega, h1.1⟩
        · rw [if_neg z] at h1 ⊢
          rw [show 0 + i - 1 = 0 + (i - 1) by omega, (c1 (i - 1) (by omega)).2, Nat.zero_add, Nat.zero_add]
          exact ⟨by omega, by omega, h1.2.2⟩
      · rintro r g2 ⟨rfl, f2, ws⟩
        apply bX9_roomOfBlock_28
        refine ⟨?_, (f.wide (fun a ha => by omega) (fun a ha => by omega)).trans (f2.wide (fun a ha => by omega) (fun a ha => by omega)), ?_, fun k hk => ?_⟩
        · unfold rob
          rw [rm_cong c1]
        · refine ⟨by rw [ws.1, dc_cong _ (fun i hi => (c1 i hi).1)], fun m hm q => ?_⟩
          have q' : ∀ j, j < m → jX g 501 (0 + j) ≠ jX g 501 (0 + m) := fun j hj => by rw [(c1 j (by omega)).1, (c1 m hm).1]; exact q j hj
          have h9 := ws.2 m hm q'
          rw [dc_cong m (fun i hi => (c1 i (by omega)).1), (c1 m hm).1] at h9
          exact h9
        · rw [f2.2.2.2.2.1 501 (by omega)]
          have := (c1 k hk).1
          rw [Nat.zero_add] at this
          exact this
    all_goals first
      | exact hM2.x
      | (rw [hM2.p9, hM2.s482]; done)
      | exact ⟨by omega, by omega⟩
      | omega
      | (rw [hM2.p9, hM2.s482]; refine Int.lt_of_le_of_lt (b := 208) ?_ (by decide); omega)
  all_goals first
    | exact hM.x
end LY
