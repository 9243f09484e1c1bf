/-! Machine.goOn does a turn. -/
/-- what a turn needs of the memory -/
def GoPre (H : List Hd) (I : Mem) (k p : Nat) (g : Int) : Prop := AnaOK I H ∧ I 26 11 = ((k + 1 : Nat) : Int) ∧ k < 100 ∧ I 30 k = (p : Int) ∧ p < H.length ∧ I 32 k = g ∧ 0 ≤ g ∧ g ≤ 2 ∧ 0 ≤ I 26 2 ∧ I 26 2 ≤ 300 ∧ 0 ≤ I 26 15 ∧ I 26 15 < 300 ∧ 0 ≤ I 26 3 ∧ I 26 3 ≤ 300 ∧ (∀ r, r < 60 → 0 ≤ I 27 r ∧ I 27 r ≤ 300) ∧ (∀ r, r < 3 → -1000 ≤ I 29 r ∧ I 29 r ≤ 1000)
theorem kp1_eq {H : List Hd} {p : Nat} : kp H p 1 = p + 1 + sp H (p + 1) := by rw [kp_succ, kp_zero]
theorem kp2_eq {H : List Hd} {p : Nat} : kp H p 2 = kp H p 1 + sp H (kp H p 1) := kp_succ
theorem R_give {J : Mem} {v : Int} {Q : Post} (h11 : 0 ≤ J 26 11 ∧ J 26 11 ≤ 1000) (h : Q none (givF J v)) : Q none (upd2 (upd2 J 26 1 v) 26 11 (wrap (J 26 11 - 1))) := by
  rw [wrap_of (by omega) (by omega)]
  exact h
theorem link_eq {J : Mem} {o n v : Int} (h0 : 0 ≤ J 26 15) (h1 : J 26 15 < 300) : upd2 (wr (wr (wr J 34 (J 26 15) n) 35 (J 26 15) v) 36 (J 26 15) o) 26 15 (wrap (J 26 15 + 1)) = lnkF J o n v := by
  unfold lnkF
  rw [wrap_of (by omega) (by omega)]
  have e : J 26 15 = (((J 26 15).toNat : Nat) : Int) := by omega
  have hl : (J 26 15).toNat < 300 := by omega
  generalize (J 26 15).toNat = q at e hl
  rw [e, wr_nat (id := 34) (by rw [sz34]; exact hl), wr_nat (id := 35) (by rw [sz35]; exact hl), wr_nat (id := 36) (by rw [sz36]; exact hl)]
