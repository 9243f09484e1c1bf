/-! The loops of the model's lays. -/
def PMod (I : Mem) (H : List Hd) (p : Nat) : Prop := (0 < p → I 92 0 = -9 ∧ I 93 0 = 0) ∧ ∀ a j, a < H.length → j < pts (lt H a) → kp H a j < p → I 92 (kp H a j) = (a : Int) ∧ I 93 (kp H a j) = I 93 a + 1 ∧ I 94 (3 * a + j) = (kp H a j : Int)
def EMd (I : Mem) (H : List Hd) (r : Nat) : Prop := I 90 r = (pos H (r + sp H r) : Int) ∧ I 91 r = (sp H r : Int)
/-- what is laid of the first p -/
def LMod (I : Mem) (H : List Hd) (p : Nat) : Prop := MTx I H p ∧ I 77 20 = (p : Int) ∧ I 79 60 = ((tk H).length : Int) ∧ PMod I H p ∧ (∀ r, r < p → 0 ≤ I 93 r ∧ I 93 r ≤ (r : Int)) ∧ (∀ r, r < p → isB (I 96 r)) ∧ TRp H (I 96) (I 95) p
/-- the open ones: c d the part at depth d, k d how many of its kids have begun -/
def Stk (I : Mem) (H : List Hd) (p o : Nat) (c k : Nat → Nat) : Prop := (∀ d, d < o → I 97 d = (c d : Int) ∧ I 98 d = (k d : Int) ∧ c d < p ∧ d ≤ c d) ∧ (∀ d, d + 1 < o → 1 ≤ k d ∧ k d ≤ pts (lt H (c d)) ∧ kp H (c d) (k d - 1) = c (d + 1)) ∧ (0 < o → c 0 = 0)
/-- only the model's rows of the tree have changed -/
def FrL (I0 I : Mem) : Prop := ∀ id, id ≠ 77 → (id < 89 ∨ 99 < id) → I id = I0 id
def Fr77 (I0 I : Mem) : Prop := ∀ k, k ≠ 20 → I 77 k = I0 77 k
theorem LMod.fr {I J : Mem} {H : List Hd} {p : Nat} (h : LMod I H p) (e : ∀ id, id ≠ 90 → id ≠ 91 → J id = I id) : LMod J H p := by
  obtain ⟨h1, h2, h3, h4, h5, h6, h7⟩ := h
  unfold LMod MTx Txt PMod at *
  rw [e 77 (by omega) (by omega), e 79 (by omega) (by omega), e 89 (by omega) (by omega), e 92 (by omega) (by omega), e 93 (by omega) (by omega), e 94 (by omega) (by omega), e 95 (by omega) (by omega), e 96 (by omega) (by omega)]
  exact ⟨h1, h2, h3, h4, h5, h6, h7⟩
theorem Stk.fr {I J : Mem} {H : List Hd} {p o : Nat} {c k : Nat → Nat} (h : Stk I H p o c k) (e1 : J 97 = I 97) (e2 : J 98 = I 98) : Stk J H p o c k := by
  unfold Stk
  rw [e1, e2]
  exact h
theorem Stk.less {I : Mem} {H : List Hd} {p o : Nat} {c k : Nat → Nat} (h : Stk I H p (o + 1) c k) : Stk I H p o c k := ⟨fun d hd => h.1 d (by omega), fun d hd => h.2.1 d (by omega), fun _ => h.2.2 (by omega)⟩
theorem wrap_pred {n : Nat} (h : n < 2147483647) : wrap (((n + 1 : Nat) : Int) - 1) = (n : Int) := by rw [wrap_of (by omega) (by omega)]; omega
theorem wrap_pred2 {n : Nat} (h : n < 2147483647) : wrap (((n + 1 : Nat) : Int) + (-1)) = (n : Int) := by rw [wrap_of (by omega) (by omega)]; omega
theorem wrap_sub {a b : Nat} (h : b ≤ a) (ha : a < 2147483647) : wrap ((a : Int) - (b : Int)) = ((a - b : Nat) : Int) := by rw [wrap_of (by omega) (by omega)]; omega
theorem lays_close {H : List Hd} (hw : wfa H) (hx : (tk H).length ≤ 60) {p : Nat} (hp : p < H.length) {Q : Post} {I0 : Mem}
    (hQ : ∀ (I : Mem) (o : Nat) (c k : Nat → Nat), LMod I H (p + 1) → FrL I0 I → Fr77 I0 I → Stk I H (p + 1) o c k → (∀ r, r < p + 1 → r + sp H r ≤ p + 1 → EMd I H r) → (o = 0 → p + 1 = H.length) → (0 < o → k (o - 1) < pts (lt H (c (o - 1))) ∧ kp H (c (o - 1)) (k (o - 1)) = p + 1) →
      R 127 9 [(0, .inr (some 77)), (1, .inl (o : Int)), (2, .inl (pos H (p + 1) : Int))] [] I Q) :
    ∀ (o : Nat) (I : Mem) (c k : Nat → Nat), LMod I H (p + 1) → FrL I0 I → Fr77 I0 I → Stk I H (p + 1) o c k → (∀ r, r ≤ p → (r + sp H r ≤ p ∨ (r + sp H r = p + 1 ∧ (o = 0 ∨ c (o - 1) < r))) → EMd I H r) → (o = 0 → p + 1 = H.length) → (0 < o → k (o - 1) ≤ pts (lt H (c (o - 1))) ∧ kp H (c (o - 1)) (k (o - 1)) = p + 1) →
      R 127 138 [(0, .inr (some 77)), (1, .inl (o : Int)), (2, .inl (pos H (p + 1) : Int))] [] I Q := by
  have h60 : H.length ≤ 60 := Nat.le_trans (len_tk H) hx
  intro o
  induction o with
  | zero =>
    intro I c k hL hF hF7 hS hE h0 ht
    refine t127_138 I _ _ ⟨fun _ => hQ I 0 c k hL hF hF7 hS (fun r hr hrs => hE r (by omega) ?_) h0 (fun h => absurd h (by omega)), fun h => absurd (by omega) h⟩
    rcases Nat.lt_or_ge p (r + sp H r) with h | h
    · exact Or.inr ⟨by omega, Or.inl rfl⟩
    · exact Or.inl h
  | succ o ih =>
    intro I c k hL hF hF7 hS hE h0 ht
    obtain ⟨t1, t2⟩ := ht (by omega)
    rw [Nat.add_sub_cancel] at t1 t2
    obtain ⟨s1, s2, s3, s4⟩ := hS.1 o (by omega)
    have hq : c o < H.length := by omega
    obtain ⟨l1, l2⟩ := hL.1.let_ hx (r := c o) s3 hq
    have hp3 := pts_le (lt H (c o))
    refine t127_138 I _ _ ⟨fun h => absurd h (by omega), fun _ => ?_⟩
    rw [wrap_pred (by omega), wrap_pred2 (by omega), toNat_c, s1, s2, l2]
    refine ⟨inb_nat (by omega), inb_nat (by omega), l1, fun hk => ?_, fun hk => ?_⟩
    · have hko : k o < pts (lt H (c o)) := by
        rcases Nat.lt_or_ge (k o) (pts (lt H (c o))) with h | h
        · exact h
        · exact absurd (by omega) hk
      have hqc := kp_lt hw hq hko
      refine hQ I (o + 1) c k hL hF hF7 hS (fun r hr hrs => hE r (by omega) ?_) h0 (fun _ => by rw [Nat.add_sub_cancel]; exact ⟨hko, t2⟩)
      rcases Nat.lt_or_ge p (r + sp H r) with h | h
      · refine Or.inr ⟨by omega, Or.inr ?_⟩
        rw [Nat.add_sub_cancel]
        rcases Nat.lt_or_ge (c o) r with h2 | h2
        · exact h2
        · have := nest hw (c := r) (b := c o) (by omega) h2 (by omega)
          omega
      · exact Or.inl h
    · have hko : k o = pts (lt H (c o)) := by
        have : ((k o : Nat) : Int) = ((pts (lt H (c o)) : Nat) : Int) := by simpa using hk
        omega
      rw [hko, kp_last hq] at t2
      dsimp only
      rw [toNat_c, upd2_id (show 97 ≠ 90 by decide), upd2_id (show 77 ≠ 90 by decide), s1, toNat_c, hL.2.1, wrap_sub (by omega) (by omega)]
      have hsp : p + 1 - c o = sp H (c o) := by omega
      rw [hsp]
      generalize hJ : upd2 (upd2 I 90 (c o) (pos H (p + 1) : Int)) 91 (c o) ((sp H (c o) : Nat) : Int) = J
      have jo : ∀ id, id ≠ 90 → id ≠ 91 → J id = I id := fun id h1 h2 => by rw [← hJ, upd2_id h2, upd2_id h1]
      have jE : ∀ r, EMd I H r ∨ r = c o → EMd J H r := by
        intro r h
        unfold EMd
        have e90 : J 90 r = if r = c o then (pos H (p + 1) : Int) else I 90 r := by
          rw [← hJ, upd2_id (show 90 ≠ 91 by decide), upd2_at]
          by_cases hr : r = c o <;> simp [hr]
        have e91 : J 91 r = if r = c o then ((sp H (c o) : Nat) : Int) else I 91 r := by
          rw [← hJ, upd2_at, upd2_id (show 91 ≠ 90 by decide)]
          by_cases hr : r = c o <;> simp [hr]
        rw [e90, e91]
        by_cases hr : r = c o
        · rw [if_pos hr, if_pos hr, hr, t2]
          exact ⟨rfl, rfl⟩
        · rw [if_neg hr, if_neg hr]
          exact h.resolve_right hr
      refine ⟨inb_nat (by omega), inb_nat (by omega), inb_nat (by omega), inb_nat (by omega), inb_nat (by omega), ?_⟩
      refine ih J c k (hL.fr jo) (fun id h1 h2 => by rw [jo id (by omega) (by omega)]; exact hF id h1 h2) (fun i hi => by rw [jo 77 (by omega) (by omega)]; exact hF7 i hi) ((hS.less).fr (jo 97 (by omega) (by omega)) (jo 98 (by omega) (by omega))) (fun r hr h => ?_) (fun ho => ?_) (fun ho => ?_)
      · -- what has ended
        by_cases hrq : r = c o
        · exact jE r (Or.inr hrq)
        · refine jE r (Or.inl (hE r hr ?_))
          rcases h with h | ⟨h, h2⟩
          · exact Or.inl h
          · refine Or.inr ⟨h, Or.inr ?_⟩
            rw [Nat.add_sub_cancel]
            rcases Nat.lt_or_ge (c o) r with h3 | h3
            · exact h3
            · exfalso
              have c0 := hS.2.2 (by omega)
              rcases Nat.eq_zero_or_pos o with z | z
              · rw [z] at h3 hrq
                omega
              · have h2 : c (o - 1) < r := h2.resolve_left (by omega)
                have hso := hS.2.1 (o - 1) (by omega)
                rw [show o - 1 + 1 = o by omega] at hso
                have ha := (hS.1 (o - 1) (by omega)).2.2.1
                have hal : c (o - 1) < H.length := by omega
                have hki : k (o - 1) - 1 < pts (lt H (c (o - 1))) := by omega
                have hkl := kp_lt hw hal hki
                obtain ⟨i3, b1, b2, b3⟩ := in_kid hw hal h2 (by omega)
                rw [kp_succ] at b3
                have b4 := nest hw (kp_len hw hal b1) b2 b3
                have b5 : i3 < k (o - 1) - 1 := by
                  rcases Nat.lt_or_ge i3 (k (o - 1) - 1) with h9 | h9
                  · exact h9
                  · have := kp_mono hw hal h9 (by omega); omega
                have b6 := kp_mono hw hal (j := i3 + 1) (i := k (o - 1) - 1) (by omega) (by omega)
                rw [kp_succ] at b6
                omega
      · -- nothing is open: the whole has ended
        have c0 := hS.2.2 (by omega)
        rw [ho, c0, sp_0 hw] at t2
        omega
      · have hso := hS.2.1 (o - 1) (by omega)
        rw [show o - 1 + 1 = o by omega] at hso
        refine ⟨hso.2.1, ?_⟩
        have e : k (o - 1) = (k (o - 1) - 1) + 1 := by omega
        rw [e, kp_succ, hso.2.2]
        exact t2
