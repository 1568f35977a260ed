/-! ===== model: the room of a block ===== -/
section LX
variable {h g : jH} {node wi sn code cm s past : Nat → Int} {n nw nd ns u D : Nat} {K : Int}
theorem dc_cong {f f' : Nat → Int} {a : Nat} : ∀ k, (∀ i, i < k → f (a + i) = f' (a + i)) → dc f a k = dc f' a k
  | 0, _ => rfl
  | k + 1, q => by
    have ih := dc_cong k (fun i hi => q i (by omega))
    by_cases z : ∀ j, j < k → f (a + j) ≠ f (a + k)
    · rw [dc_in z, dc_in (fun j hj => by rw [← q j (by omega), ← q k (by omega)]; exact z j hj), ih]
    · obtain ⟨j, h1, h2⟩ : ∃ j, j < k ∧ f (a + j) = f (a + k) := Classical.byContradiction fun y => z (fun j hj e => y ⟨j, hj, e⟩)
      rw [dc_out h1 h2, dc_out h1 (by rw [← q j (by omega), ← q k (by omega)]; exact h2), ih]
theorem fi_cong {f f' : Nat → Int} {v : Int} {a : Nat} : ∀ k m, (∀ i, i < m + k → f (a + i) = f' (a + i)) → fi f v a k m = fi f' v a k m
  | 0, _, _ => rfl
  | k + 1, m, q => by
    unfold fi
    rw [q m (by omega), fi_cong k (m + 1) (fun i hi => q i (by omega))]
theorem pl_cong {f f' : Nat → Int} {a k : Nat} (q : ∀ i, i ≤ k → f (a + i) = f' (a + i)) : pl f a k = pl f' a k := by
  unfold pl
  have h1 := fi_le f (f (a + k)) a k 0
  rw [q k (Nat.le_refl k)] at h1 ⊢
  rw [← fi_cong k 0 (fun i hi => q i (by omega))]
  exact dc_cong _ (fun i hi => q i (by omega))
theorem rmc_cong {f f' t t' : Nat → Int} {a : Nat} {b : Int} : ∀ k, (∀ i, i < k → f (a + i) = f' (a + i) ∧ t (a + i) = t' (a + i)) → rmc f t a b k = rmc f' t' a b k
  | 0, _ => rfl
  | k + 1, q => by
    have ih := rmc_cong (b := b) k (fun i hi => q i (by omega))
    unfold rmc
    rw [ih, pl_cong (fun i hi => (q i (by omega)).1), (q k (by omega)).2]
    by_cases z : k = 0
    · rw [if_pos z, if_pos z]
    · rw [if_neg z, if_neg z, show a + k - 1 = a + (k - 1) by omega, (q (k - 1) (by omega)).2]
theorem rm_cong {f f' t t' : Nat → Int} {a k : Nat} {w b : Int} (q : ∀ i, i < k → f (a + i) = f' (a + i) ∧ t (a + i) = t' (a + i)) : rm f t w a b k = rm f' t' w a b k := by
  unfold rm
  rw [rmc_cong k q, dc_cong k (fun i hi => (q i hi).1)]
theorem eX9_roomOf {d a n : Nat} {b : Int} {nw : Nat} (hM : MK h) (hn : n ≤ 8) (ha : a + n ≤ 48) (hw : jI h 476 2 = (nw : Int)) (hnw : nw ≤ 6) (hb0 : 0 ≤ b) (hb : b ≤ 999)
    (ht : ∀ i, i < n → 0 ≤ jX h 500 (a + i) ∧ jX h 500 (a + i) ≤ 999 ∧ (if i = 0 then b else jX h 500 (a + i - 1)) ≤ jX h 500 (a + i)) :
    Ex MX9_roomOf (d + 1) [.inr 476, .inl (a : Int), .inl (n : Int), .inl b] h 0 0 (fun r g => r = some (.inl (rm (jX h 501) (jX h 500) nw a b n)) ∧ MF (fun b => b = 502) (fun b => b = 47) h g ∧ WS g (jX h 501) a n) := by
  refine Ex_of_V tX9_roomOf (Nat.le_of_ble_eq_true rfl) ?_
  apply bX9_roomOf_0
  case r1 => rw [hw]; exact ⟨by omega, by omega⟩
  case k1 =>
    rw [hw]
    have key : ∀ c i : Nat, i + c = n → ∀ (g : jH) (u7 : Option jA), MF (fun b => b = 502) (fun b => b = 47) h g → WS g (jX h 501) a i → V MX9_roomOf (d + 1) 19 [some (.inr 476), some (.inl (a : Int)), some (.inl (n : Int)), some (.inl b), some (.inl (2 + (nw : Int) + rmc (jX h 501) (jX h 500) a b i)), some (.inl (if i = 0 then b else jX h 500 (a + i - 1))), some (.inl ((a + i : Nat) : Int)), u7] [] g 0 0 (fun r g => r = some (.inl (rm (jX h 501) (jX h 500) nw a b n)) ∧ MF (fun b => b = 502) (fun b => b = 47) h g ∧ WS g (jX h 501) a n) := by
      intro c
      induction c with
      | zero =>
        intro i hi g u7 f ws
        obtain rfl : i = n := by omega
        have hd := dc_le (jX h 501) a i
        have hr := rmc_b (jX h 501) (jX h 500) a b i
        apply bX9_roomOf_19
        case q1 =>
          rw [ws.1]
          intro _
          refine ⟨?_, f, ws⟩
          unfold rm
          congr 2
          omega
        all_goals (try rw [ws.1])
        all_goals first
          | exact (f.mk hM).x
          | (rw [(f.mk hM).p43, (f.mk hM).s500]; done)
          | (rw [(f.mk hM).p44, (f.mk hM).s501]; done)
          | (intros; exact ⟨by omega, by omega⟩)
          | exact ⟨by omega, by omega⟩
          | (intros; omega)
      | succ c ih =>
        intro i hi g u7 f ws
        have hd := dc_le (jX h 501) a i
        have hr := rmc_b (jX h 501) (jX h 500) a b i
        have hM2 := f.mk hM
        have e500 : jX g 500 = jX h 500 := f.2.2.2.2.1 500 (by omega)
        have e501 : jX g 501 = jX h 501 := f.2.2.2.2.1 501 (by omega)
        have hti := ht i (by omega)
        have hpt : 0 ≤ (if i = 0 then b else jX h 500 (a + i - 1)) := by
          split
          · omega
          · have := ht (i - 1) (by omega); rw [show a + (i - 1) = a + i - 1 by omega] at this; omega
        apply bX9_roomOf_19
        case q1 => intro z; omega
        case e1 =>
          intro _
          rw [hM2.p43, hM2.p44, e500, e501, Int.toNat_natCast]
          refine Ex.mono (eX9_placeOf (v := jX h 501 (a + i)) hM2 ws (by omega) (fun z => by omega)) ?_
          intro r g2 hr2
          obtain ⟨rfl, ws2, f2⟩ := ws.next hr2
          have f3 := f.trans f2
          have hM3 := f3.mk hM
          have e500' : jX g2 500 = jX h 500 := f3.2.2.2.2.1 500 (by omega)
          have hpl := pl_le (jX h 501) a i
          -- behind the sum
          have go : ∀ p q : Int, (p = if 2 ≤ pl (jX h 501) a i then 1 else 0) → q = stp (jX h 500 (a + i) - if i = 0 then b else jX h 500 (a + i - 1)) → V MX9_roomOf (d + 1) 84 [some (.inr 476), some (.inl (a : Int)), some (.inl (n : Int)), some (.inl b), some (.inl (2 + (nw : Int) + rmc (jX h 501) (jX h 500) a b i)), some (.inl (if i = 0 then b else jX h 500 (a + i - 1))), some (.inl ((a + i : Nat) : Int)), some (.inl (jX h 500 (a + i) - if i = 0 then b else jX h 500 (a + i - 1)))] [.inl q, .inl (1 + p), .inl (2 + (nw : Int) + rmc (jX h 501) (jX h 500) a b i)] g2 0 0 (fun r g => r = some (.inl (rm (jX h 501) (jX h 500) nw a b n)) ∧ MF (fun b => b = 502) (fun b => b = 47) h g ∧ WS g (jX h 501) a n) := by
            intro p q hp hq
            have hq2 := stp_b (jX h 500 (a + i) - if i = 0 then b else jX h 500 (a + i - 1))
            have hp2 : 0 ≤ p ∧ p ≤ 1 := by rw [hp]; split <;> omega
            have h9 := ih (i + 1) (by omega) g2 (some (.inl (jX h 500 (a + i) - if i = 0 then b else jX h 500 (a + i - 1)))) f3 ws2
            have er : rmc (jX h 501) (jX h 500) a b (i + 1) = rmc (jX h 501) (jX h 500) a b i + (1 + p + q) := by
              conv => lhs; unfold rmc
              rw [← hp, ← hq]
            rw [er, if_neg (Nat.succ_ne_zero i), show a + (i + 1) - 1 = a + i by omega] at h9
            apply bX9_roomOf_84
            case k1 =>
              rw [hM3.p43, e500', Int.toNat_natCast, show 2 + (nw : Int) + rmc (jX h 501) (jX h 500) a b i + (1 + p + q) = 2 + (nw : Int) + (rmc (jX h 501) (jX h 500) a b i + (1 + p + q)) by omega, show ((a + i : Nat) : Int) + 1 = ((a + (i + 1) : Nat) : Int) by omega]
              exact h9
            all_goals first
              | exact hM3.x
              | (rw [hM3.p43, hM3.s500]; done)
              | exact ⟨by omega, by omega⟩
              | omega
              | (rw [hM3.p43, hM3.s500]; refine Int.lt_of_le_of_lt (b := 47) ?_ (by decide); omega)
          have go2 : ∀ p : Int, (p = if 2 ≤ pl (jX h 501) a i then 1 else 0) → V MX9_roomOf (d + 1) 62 [some (.inr 476), some (.inl (a : Int)), some (.inl (n : Int)), some (.inl b), some (.inl (2 + (nw : Int) + rmc (jX h 501) (jX h 500) a b i)), some (.inl (if i = 0 then b else jX h 500 (a + i - 1))), some (.inl ((a + i : Nat) : Int)), some (.inl (jX h 500 (a + i) - if i = 0 then b else jX h 500 (a + i - 1)))] [.inl p, .inl 1, .inl (2 + (nw : Int) + rmc (jX h 501) (jX h 500) a b i)] g2 0 0 (fun r g => r = some (.inl (rm (jX h 501) (jX h 500) nw a b n)) ∧ MF (fun b => b = 502) (fun b => b = 47) h g ∧ WS g (jX h 501) a n) := by
            intro p hp
            have hp2 : 0 ≤ p ∧ p ≤ 1 := by rw [hp]; split <;> omega
            apply bX9_roomOf_62
            case r1 => exact ⟨by omega, by omega⟩
            case k1 => intro z1 z2; exact go p 2 hp (by unfold stp; rw [if_neg (by omega), if_pos z2])
            case k2 => intro z1 z2; exact go p 1 hp (by unfold stp; rw [if_neg (by omega), if_neg z2])
            case k3 => intro z1; exact go p 0 hp (by unfold stp; rw [if_pos (by omega)])
          apply bX9_roomOf_53
          case k1 => intro z; exact go2 0 (by rw [if_neg (by omega)])
          case k2 => intro z; exact go2 1 (by rw [if_pos (by omega)])
        all_goals (try rw [hM2.p43, e500])
        all_goals (try rw [Int.toNat_natCast])
        all_goals first
          | exact hM2.x
          | (rw [hM2.p43, hM2.s500]; done)
          | (rw [hM2.p44, hM2.s501]; done)
          | (intros; exact ⟨by omega, by omega⟩)
          | exact ⟨by omega, by omega⟩
          | (intros; omega)
          | (intros; rw [hM2.p43, hM2.s500]; refine Int.lt_of_le_of_lt (b := 47) ?_ (by decide); omega)
          | (intros; rw [hM2.p44, hM2.s501]; refine Int.lt_of_le_of_lt (b := 47) ?_ (by decide); omega)
    have h9 := key n 0 (by omega) (jsI h 476 47 0) none (MF.sI rfl) ⟨by rw [jI_sI, if_pos ⟨rfl, rfl⟩]; rfl, fun m hm => absurd hm (Nat.not_lt_zero _)⟩
    have e0 : rmc (jX h 501) (jX h 500) a b 0 = 0 := rfl
    rw [e0, Int.add_zero, if_pos rfl] at h9
    exact h9
  all_goals first
    | exact hM.x
end LX
