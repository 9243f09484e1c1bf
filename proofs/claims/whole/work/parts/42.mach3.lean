/-! Machine.goOn does a turn. -/
/-- what a turn needs of the memory -/
def GoPre (H : List Hd) (I : Mem) (k p : Nat) (g : Int) : Prop := AnaOK I H ∧ I 26 11 = ((k + 1 : Nat) : Int) ∧ k < 100 ∧ I 30 k = (p : Int) ∧ p < H.length ∧ I 32 k = g ∧ 0 ≤ g ∧ g ≤ 2 ∧ 0 ≤ I 26 2 ∧ I 26 2 ≤ 300 ∧ 0 ≤ I 26 15 ∧ I 26 15 < 300 ∧ 0 ≤ I 26 3 ∧ I 26 3 ≤ 1000 ∧ (∀ r, r < 60 → 0 ≤ I 27 r ∧ I 27 r ≤ 300) ∧ (∀ r, r < 3 → -1000 ≤ I 29 r ∧ I 29 r ≤ 1000)
theorem kp1_eq {H : List Hd} {p : Nat} : kp H p 1 = p + 1 + sp H (p + 1) := by rw [kp_succ, kp_zero]
theorem kp2_eq {H : List Hd} {p : Nat} : kp H p 2 = kp H p 1 + sp H (kp H p 1) := kp_succ
theorem R_give {J : Mem} {v : Int} {Q : Post} (h11 : 0 ≤ J 26 11 ∧ J 26 11 ≤ 1000) (h : Q none (givF J v)) : Q none (upd2 (upd2 J 26 1 v) 26 11 (wrap (J 26 11 - 1))) := by
  rw [wrap_of (by omega) (by omega)]
  exact h
theorem link_eq {J : Mem} {o n v : Int} (h0 : 0 ≤ J 26 15) (h1 : J 26 15 < 300) : upd2 (wr (wr (wr J 34 (J 26 15) n) 35 (J 26 15) v) 36 (J 26 15) o) 26 15 (wrap (J 26 15 + 1)) = lnkF J o n v := by
  unfold lnkF
  rw [wrap_of (by omega) (by omega)]
  have e : J 26 15 = (((J 26 15).toNat : Nat) : Int) := by omega
  have hl : (J 26 15).toNat < 300 := by omega
  generalize (J 26 15).toNat = q at e hl
  rw [e, wr_nat (id := 34) (by rw [sz34]; exact hl), wr_nat (id := 35) (by rw [sz35]; exact hl), wr_nat (id := 36) (by rw [sz36]; exact hl)]
def JP (H : List Hd) (J : Mem) (k p : Nat) : Prop := AnaOK J H ∧ J 26 11 = ((k + 1 : Nat) : Int) ∧ k < 100 ∧ p < H.length ∧ 0 ≤ J 26 2 ∧ 0 ≤ J 26 15 ∧ J 26 15 < 300 ∧ 0 ≤ J 26 3 ∧ J 26 3 ≤ 1000 ∧ (∀ r, r < 60 → 0 ≤ J 27 r ∧ J 27 r ≤ 300) ∧ (∀ r, r < 3 → -1000 ≤ J 29 r ∧ J 29 r ≤ 1000)
section Turn
variable {H : List Hd} {J : Mem} {k p : Nat} {s : Int} {Q : Post}
theorem JP.r15 (hH : prog H) (h : JP H J k p) {q : Nat} (hq : q < H.length) : rd J 15 (q : Int) = (sp H q : Int) := by
  have h60 := prog_60 hH
  rw [tree_rd (t := 9) (H := H) (Or.inl rfl) h60 6 q (by omega) (by omega) hq]
  exact (h.1.1.2.2.2.1 q hq).2
theorem JP.second (hH : prog H) (h : JP H J k p) (h2 : 1 < pts (lt H p)) : wrap (wrap ((p : Int) + 1) + rd J 15 (wrap ((p : Int) + 1))) = (kp H p 1 : Int) := by
  have h60 := prog_60 hH
  have hw := prog_wfa hH
  have hp := h.2.2.2.1
  have hk0 := kp_len hw hp (j := 0) (by omega)
  have hk1 := kp_len hw hp (j := 1) (by omega)
  rw [kp_zero] at hk0
  rw [kp1_eq] at hk1 ⊢
  rw [wrap_succ (by omega), h.r15 hH hk0, wrap_of (by omega) (by omega)]
  omega
theorem JP.third (hH : prog H) (h : JP H J k p) (h2 : 2 < pts (lt H p)) : wrap (wrap (wrap ((p : Int) + 1) + rd J 15 (wrap ((p : Int) + 1))) + rd J 15 (wrap (wrap ((p : Int) + 1) + rd J 15 (wrap ((p : Int) + 1))))) = (kp H p 2 : Int) := by
  have h60 := prog_60 hH
  have hw := prog_wfa hH
  have hp := h.2.2.2.1
  have hk1 := kp_len hw hp (j := 1) (by omega)
  have hk2 := kp_len hw hp (j := 2) (by omega)
  rw [h.second hH (by omega), h.r15 hH hk1]
  rw [kp2_eq] at hk2 ⊢
  rw [wrap_of (by omega) (by omega)]
  omega
theorem JP.beg (hH : prog H) (h : JP H J k p) {q : Nat} (hq : q < H.length) {s : Int} (hQ : Q none (begF J q s)) : R 26 0 [(0, .inr (some 26)), (1, .inl (q : Int)), (2, .inl s)] [] J Q := by
  have h60 := prog_60 hH
  obtain ⟨-, j1, -, -, j4, -, -, -, -, j8, -⟩ := h
  exact R_begin (by omega) j4 (by omega) (j8 q (by omega)) hQ
theorem R_operates (hH : prog H) (h : JP H J k p) (ho : isOpr (lt H p) = true) {g : Int} (hg : g = 0 ∨ g = 1 ∨ g = 2)
    (hQ : Q none (if g = 0 then begF J (kp H p 0) s else if g = 1 then begF (upd2 J 33 k (J 26 1)) (kp H p 1) s else givF J (oper (lt H p) (J 33 k) (J 26 1)))) :
    R 29 0 [(0, .inr (some 26)), (1, .inr (some 9)), (2, .inl (p : Int)), (3, .inl s), (4, .inl g)] [] J Q := by
  have h60 := prog_60 hH
  have hw := prog_wfa hH
  have hp := h.2.2.2.1
  have hk := h.2.2.1
  have h11 := h.2.1
  have hpt : pts (lt H p) = 2 := by simp [pts, ho]
  have r10 : rd J 10 (p : Int) = lt H p := by rw [tree_rd (t := 9) (H := H) (Or.inl rfl) h60 1 p (by omega) (by omega) hp]; exact (h.1.1.2.1 p hp).1
  have e11 : wrap (J 26 11 - 1) = (k : Int) := by rw [h11]; exact wrap_pred (by omega)
  have r33 : rd J 33 (k : Int) = J 33 k := rd_nat (by rw [sz33]; omega)
  have w33 : ∀ v, wr J 33 (k : Int) v = upd2 J 33 k v := fun v => wr_nat (by rw [sz33]; omega)
  refine t29_0 J _ _ _ ⟨fun g0 => ⟨fun g1 => ?_, fun g1 => ?_⟩, fun g0 => ?_⟩
  · rw [if_neg g0, if_neg g1] at hQ
    dsimp only
    rw [r10, e11, r33, ← e11]
    exact R_give (by omega) hQ
  · rw [if_neg g0, if_pos (by simpa using g1)] at hQ
    dsimp only
    rw [e11, w33]
    have h' : JP H (upd2 J 33 k (J 26 1)) k p := by
      obtain ⟨⟨a1, a2⟩, j1, j2, j3, j4, j5, j6, j7, j8, j9, j10⟩ := h
      have e : ∀ id, id ≠ 33 → upd2 J 33 k (J 26 1) id = J id := fun id hid => upd2_id hid
      refine ⟨⟨a1.fr (fun i hi => e _ (by omega)), ?_⟩, ?_⟩
      · unfold FlowOK
        rw [e 21 (by decide), e 22 (by decide), e 23 (by decide), e 24 (by decide), e 25 (by decide)]
        exact a2
      · rw [e 26 (by decide), e 27 (by decide), e 29 (by decide)]
        exact ⟨j1, j2, j3, j4, j5, j6, j7, j8, j9, j10⟩
    rw [h'.second hH (by omega)]
    exact h'.beg hH (kp_len hw hp (by omega)) ⟨rfl, hQ⟩
  · rw [if_pos (by simpa using g0), kp_zero] at hQ
    rw [wrap_succ (by omega)]
    have := kp_len hw hp (j := 0) (by omega)
    rw [kp_zero] at this
    exact h.beg hH this ⟨rfl, hQ⟩
end Turn
