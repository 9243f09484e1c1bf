/-! The loops of Tree.build. -/
def SInv (I : Mem) (t : Nat) (H : List Hd) (p : Nat) : Prop := ∀ r, r < p → I (t + 1) r = lt H r ∧ I (t + 2) r = nm H r ∧ I (t + 3) r = pm H r ∧ I (t + 4) r = (pos H r : Int)
def PInv (I : Mem) (t : Nat) (H : List Hd) (p : Nat) : Prop := (0 < p → I (t + 7) 0 = -1 ∧ I (t + 8) 0 = 0 ∧ I (t + 9) 0 = 0) ∧
  ∀ r j, r < H.length → j < pts (lt H r) → kp H r j < p → I (t + 7) (kp H r j) = (r : Int) ∧ I (t + 8) (kp H r j) = (j : Int) ∧ I (t + 9) (kp H r j) = I (t + 9) r + 1
def ESp (I : Mem) (t : Nat) (H : List Hd) (r : Nat) : Prop := I (t + 5) r = (pos H (r + sp H r) : Int) ∧ I (t + 6) r = (sp H r : Int)
def DInv (I : Mem) (t : Nat) (H : List Hd) (p : Nat) : Prop := ∀ r, r < p → 0 ≤ I (t + 9) r ∧ I (t + 9) r ≤ (r : Int)
def Fr (t : Nat) (I0 I : Mem) : Prop := ∀ id, (id < t ∨ t + 10 < id) → I id = I0 id
def BInv (I : Mem) (t : Nat) (H : List Hd) (p : Nat) (ar : Int) : Prop := I t 0 = (p : Int) ∧ SInv I t H p ∧ PInv I t H p ∧ (∀ r, r < p → r + sp H r ≤ p → ESp I t H r) ∧
  (∀ r j, r < p → j < pts (lt H r) → kp H r j ≤ p → p < kp H r (j + 1) → I (t + 10) r = ((pts (lt H r) - j : Nat) : Int)) ∧ (p = 0 → ar = -1) ∧ (∀ a j, a < H.length → j < pts (lt H a) → kp H a j = p → ar = (a : Int)) ∧ DInv I t H p
def EInv (I : Mem) (t : Nat) (H : List Hd) (p q : Nat) : Prop := I t 0 = ((p + 1 : Nat) : Int) ∧ SInv I t H (p + 1) ∧ PInv I t H (p + 1) ∧ (∀ r, r ≤ p → (r + sp H r ≤ p ∨ (r + sp H r = p + 1 ∧ q < r)) → ESp I t H r) ∧
  (∀ r j, r < q → j < pts (lt H r) → kp H r j ≤ p → p < kp H r (j + 1) → I (t + 10) r = ((pts (lt H r) - j : Nat) : Int)) ∧ q ≤ p ∧ (∃ j, j ≤ pts (lt H q) ∧ kp H q j = p + 1 ∧ I (t + 10) q = ((pts (lt H q) - j : Nat) : Int)) ∧ DInv I t H (p + 1)
theorem SInv.of {I J : Mem} {t p : Nat} {H : List Hd} (h : SInv I t H p) (e : ∀ k, 1 ≤ k → k ≤ 4 → J (t + k) = I (t + k)) : SInv J t H p := by
  intro r hr
  rw [e 1 (by omega) (by omega), e 2 (by omega) (by omega), e 3 (by omega) (by omega), e 4 (by omega) (by omega)]
  exact h r hr
theorem PInv.of {I J : Mem} {t p : Nat} {H : List Hd} (h : PInv I t H p) (e : ∀ k, 7 ≤ k → k ≤ 9 → J (t + k) = I (t + k)) : PInv J t H p := by
  unfold PInv
  rw [e 7 (by omega) (by omega), e 8 (by omega) (by omega), e 9 (by omega) (by omega)]
  exact h
theorem DInv.of {I J : Mem} {t p : Nat} {H : List Hd} (h : DInv I t H p) (e : J (t + 9) = I (t + 9)) : DInv J t H p := by
  unfold DInv
  rw [e]
  exact h
set_option maxHeartbeats 1000000 in
/-- endAll: all that ends behind p is ended -/
theorem endAll_loop {t : Nat} (ht : t = 9 ∨ t = 40) {H : List Hd} (hw : wfa H) (h60 : H.length ≤ 60) (hx : (tk H).length ≤ 60) {p : Nat} (hp : p < H.length) {Q : Post} {I0 : Mem}
    (hQ : ∀ (v : Int) (I : Mem), BInv I t H (p + 1) v → Fr t I0 I → Q (some (.inl v)) I) :
    ∀ (q k : Nat) (I : Mem), k + q ≤ p → EInv I t H p q → Fr t I0 I → R 69 5 [(0, .inr (some t)), (2, .inl (pos H (p + 1) : Int)), (3, .inl (q : Int)), (4, .inl (k : Int))] [] I Q := by
  intro q
  induction q using Nat.strongRecOn with
  | _ q ih =>
    intro k I hk hE hF
    obtain ⟨e1, e2, e3, e4, e5, e6, ⟨j, j1, j2, j3⟩, e7⟩ := hE
    have hq : q < H.length := by omega
    have hsz : ∀ i, 1 ≤ i → i ≤ 10 → sz (t + i) = 60 := fun i h1 h2 => szT ht h1 h2
    have rdn : ∀ (J : Mem) (i r : Nat), 1 ≤ i → i ≤ 10 → r < 60 → rd J (t + i) (r : Int) = J (t + i) r := fun J i r h1 h2 h3 => rd_nat (by rw [hsz i h1 h2]; exact h3)
    have wrn : ∀ (J : Mem) (i r : Nat) (v : Int), 1 ≤ i → i ≤ 10 → r < 60 → wr J (t + i) (r : Int) v = upd2 J (t + i) r v := fun J i r v h1 h2 h3 => wr_nat (by rw [hsz i h1 h2]; exact h3)
    have hpl : pts (lt H q) ≤ 3 := pts_le _
    refine t69_5 t ht I _ _ _ ?_
    rw [rdn I 10 q (by omega) (by omega) (by omega)]
    refine ⟨fun h => absurd h (by omega), fun _ => ⟨fun h => absurd h (by omega), fun _ => ⟨fun hm => ?_, fun hm => ?_⟩⟩⟩
    · -- q goes on
      have hj : j < pts (lt H q) := by
        rcases Nat.lt_or_ge j (pts (lt H q)) with h | h
        · exact h
        · exfalso; apply hm; rw [j3]; omega
      have hqc : p + 1 < q + sp H q := by
        have := kp_lt hw hq hj
        omega
      refine hQ _ _ ⟨e1, e2, e3, fun r hr hrs => ?_, fun r i hr hi h1 h2 => ?_, fun h => absurd h (by omega), fun a i ha hi h => ?_, e7⟩ hF
      · refine e4 r (by omega) ?_
        rcases Nat.lt_or_ge p (r + sp H r) with h | h
        · refine Or.inr ⟨by omega, ?_⟩
          rcases Nat.lt_or_ge q r with h2 | h2
          · exact h2
          · have := nest hw (c := r) (b := q) (by omega) h2 (by omega); omega
        · exact Or.inl h
      · rcases Nat.lt_trichotomy r q with hrq | hrq | hrq
        · -- r before q: it holds p
          have h3 := kp_succ (H := H) (p := r) (j := i)
          have hrl : r < H.length := by omega
          have hql : kp H r i ≤ p := by
            rcases Nat.lt_or_ge p (kp H r i) with h4 | h4
            · exfalso
              have h5 : kp H r i = kp H q j := by omega
              have := kp_uniq hw hrl hq hi hj h5
              omega
            · exact h4
          exact e5 r i hrq hi hql (by omega)
        · subst hrq
          have : i = j := by
            rcases Nat.lt_trichotomy i j with h3 | h3 | h3
            · have := kp_mono hw hq (j := i + 1) (i := j) (by omega) (by omega); omega
            · exact h3
            · have := kp_smono hw hq (j := j) (i := i) h3 (by omega); omega
          subst this
          exact j3
        · exfalso
          have h3 := kp_mono hw (p := r) (by omega) (j := i + 1) (i := pts (lt H r)) (by omega) (Nat.le_refl _)
          rw [kp_last (by omega)] at h3
          have := nest hw (c := q) (b := r) hq (by omega) (by omega)
          have g := kp_gt (H := H) (p := r) (j := i)
          have h6 := kp_zero (H := H) (p := r)
          have h7 := in_kid hw hq hrq (by omega)
          obtain ⟨i2, a1, a2, a3⟩ := h7
          rw [kp_succ] at a3
          have h8 := nest hw (kp_len hw hq a1) a2 a3
          have hi2 : i2 < j := by
            rcases Nat.lt_or_ge i2 j with h9 | h9
            · exact h9
            · have := kp_mono hw hq h9 (by omega); omega
          have h10 := kp_mono hw hq (j := i2 + 1) (i := j) (by omega) (by omega)
          rw [kp_succ] at h10
          omega
      · have := kp_uniq hw ha hq hi hj (by omega)
        rw [this.1]
    · -- q ends
      have hm0 : I (t + 10) q = 0 := by simpa using hm
      have hj : j = pts (lt H q) := by omega
      subst hj
      rw [kp_last hq] at j2
      have hes : wrap (I t 0 - (q : Int)) = (sp H q : Int) := by
        rw [e1, wrap_of (by omega) (by omega)]
        omega
      have hI5 : upd2 I (t + 5) q (pos H (p + 1) : Int) t 0 = I t 0 := by rw [upd2_id (by omega)]
      rw [wrn I 5 q _ (by omega) (by omega) (by omega)]
      dsimp only
      rw [hI5, hes, wrn _ 6 q _ (by omega) (by omega) (by omega)]
      generalize hJ : upd2 (upd2 I (t + 5) q (pos H (p + 1) : Int)) (t + 6) q (sp H q : Int) = J
      have jo : ∀ i, i ≠ 5 → i ≠ 6 → J (t + i) = I (t + i) := by
        intro i h1 h2
        rw [← hJ, upd2_id (by omega), upd2_id (by omega)]
      have jt : J t = I t := by rw [← hJ, upd2_id (by omega), upd2_id (by omega)]
      have j5 : ∀ r, J (t + 5) r = if r = q then (pos H (p + 1) : Int) else I (t + 5) r := by
        intro r
        rw [← hJ, upd2_id (by omega), upd2_at]
        by_cases h : r = q <;> simp [h]
      have j6 : ∀ r, J (t + 6) r = if r = q then (sp H q : Int) else I (t + 6) r := by
        intro r
        rw [← hJ, upd2_at, upd2_id (by omega)]
        by_cases h : r = q <;> simp [h]
      have jE : ∀ r, r ≤ p → (r + sp H r ≤ p ∨ (r + sp H r = p + 1 ∧ q ≤ r)) → ESp J t H r := by
        intro r hr h
        unfold ESp
        rw [j5, j6]
        by_cases hrq : r = q
        · subst hrq
          rw [if_pos rfl, if_pos rfl, j2]
          exact ⟨rfl, rfl⟩
        · rw [if_neg hrq, if_neg hrq]
          exact e4 r hr (by omega)
      have jF : Fr t I0 J := fun id hid => by rw [← hJ, upd2_id (by omega), upd2_id (by omega)]; exact hF id hid
      have jS := e2.of (J := J) (fun k h1 h2 => jo k (by omega) (by omega))
      have jP := e3.of (J := J) (fun k h1 h2 => jo k (by omega) (by omega))
      have jD := e7.of (J := J) (jo 9 (by omega) (by omega))
      rw [rdn J 7 q (by omega) (by omega) (by omega)]
      rcases Nat.eq_zero_or_pos q with hq0 | hq0
      · -- the whole ends
        subst hq0
        have hpm : p + 1 = H.length := by rw [sp_0 hw] at j2; omega
        have e7 : J (t + 7) 0 = -1 := by rw [jo 7 (by omega) (by omega)]; exact (e3.1 (by omega)).1
        rw [e7]
        refine ⟨fun _ => ?_, fun h => absurd (by omega) h⟩
        have hres : Q (some (.inl (-1))) J := by
          refine hQ _ _ ⟨by rw [jt]; exact e1, jS, jP, fun r hr hrs => jE r (by omega) (by omega), fun r i hr hi h1 h2 => ?_, fun h => absurd h (by omega), fun a i ha hi h => ?_, jD⟩ jF
          · exfalso
            have h3 := kp_mono hw (p := r) (by omega) (j := i + 1) (i := pts (lt H r)) (by omega) (Nat.le_refl _)
            rw [kp_last (by omega)] at h3
            have := sp_le (H := H) (p := r) (by omega)
            omega
          · exfalso
            have := kp_len hw ha hi
            omega
        exact t69_5 t ht J _ _ _ ⟨fun _ => hres, fun _ => ⟨fun _ => hres, fun h => absurd (by omega) h⟩⟩
      · obtain ⟨a, i, a1, a2, a3⟩ := kp_surj hw q hq0 hq
        have ha : a < H.length := by omega
        have hpa := e3.2 a i ha a2 (by omega)
        rw [a3] at hpa
        have e7 : J (t + 7) q = (a : Int) := by rw [jo 7 (by omega) (by omega)]; exact hpa.1
        rw [e7]
        refine ⟨fun h => absurd h (by omega), fun _ => ?_⟩
        have hka : kp H a (i + 1) = p + 1 := by rw [kp_succ, a3]; omega
        have hma := e5 a i a1 a2 (by omega) (by omega)
        have hmJ : J (t + 10) a = ((pts (lt H a) - i : Nat) : Int) := by rw [jo 10 (by omega) (by omega)]; exact hma
        have hpa3 : pts (lt H a) ≤ 3 := pts_le _
        have hwm : wrap (J (t + 10) a - 1) = ((pts (lt H a) - (i + 1) : Nat) : Int) := by rw [hmJ, wrap_of (by omega) (by omega)]; omega
        rw [rdn J 10 a (by omega) (by omega) (by omega), hwm, wrn J 10 a _ (by omega) (by omega) (by omega), wrap_succ (by omega)]
        have ko : ∀ i, i ≠ 10 → upd2 J (t + 10) a ((pts (lt H a) - (i + 1) : Nat) : Int) (t + i) = J (t + i) := fun i h => upd2_id (by omega)
        generalize hK : upd2 J (t + 10) a ((pts (lt H a) - (i + 1) : Nat) : Int) = K
        have ko : ∀ i, i ≠ 10 → K (t + i) = J (t + i) := fun i h => by rw [← hK]; exact upd2_id (by omega)
        have kt : K t = J t := by rw [← hK]; exact upd2_id (by omega)
        have k10 : ∀ r, K (t + 10) r = if r = a then ((pts (lt H a) - (i + 1) : Nat) : Int) else J (t + 10) r := by
          intro r
          rw [← hK, upd2_at]
          by_cases h : r = a <;> simp [h]
        refine ih a a1 (k + 1) K (by omega) ⟨by rw [kt, jt]; exact e1, jS.of (fun k h1 h2 => ko k (by omega)), jP.of (fun k h1 h2 => ko k (by omega)), fun r hr h => ?_, fun r i2 hr hi2 h1 h2 => ?_, by omega, ⟨i + 1, by omega, hka, ?_⟩, jD.of (ko 9 (by omega))⟩ (fun id hid => by rw [← hK, upd2_id (by omega)]; exact jF id hid)
        · unfold ESp
          rw [ko 5 (by omega), ko 6 (by omega)]
          refine jE r hr ?_
          rcases h with h | ⟨h1, h2⟩
          · exact Or.inl h
          · refine Or.inr ⟨h1, ?_⟩
            rcases Nat.lt_or_ge r q with h3 | h3
            · exfalso
              obtain ⟨i3, b1, b2, b3⟩ := in_kid hw ha h2 (by have := kp_lt hw ha a2; omega)
              rw [kp_succ] at b3
              have b4 := nest hw (kp_len hw ha b1) b2 b3
              have b5 : i3 < i := by
                rcases Nat.lt_or_ge i3 i with h9 | h9
                · exact h9
                · have := kp_mono hw ha h9 (by omega); omega
              have b6 := kp_mono hw ha (j := i3 + 1) (i := i) (by omega) (by omega)
              rw [kp_succ] at b6
              have := sp_pos hw hq
              omega
            · exact h3
        · rw [k10, if_neg (by omega), jo 10 (by omega) (by omega)]
          exact e5 r i2 (by omega) hi2 h1 h2
        · rw [k10, if_pos rfl]
