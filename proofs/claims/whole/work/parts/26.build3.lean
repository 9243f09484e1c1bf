/-! Tree.build. -/
def TreeOK (I : Mem) (t : Nat) (H : List Hd) : Prop := I t 0 = (H.length : Int) ∧ SInv I t H H.length ∧ PInv I t H H.length ∧ (∀ r, r < H.length → ESp I t H r) ∧ DInv I t H H.length
theorem addM_at {I : Mem} {t p : Nat} {ar c n1 n2 i pl dp : Int} (k r : Nat) (hk : k ≤ 10) : addM I t p ar c n1 n2 i pl dp (t + k) r =
    if r = p then (if k = 1 then c else if k = 2 then n1 else if k = 3 then n2 else if k = 4 then i else if k = 7 then ar else if k = 10 then ((pts c : Nat) : Int) else if k = 8 then pl else if k = 9 then dp else I (t + k) r) else I (t + k) r := by
  unfold addM
  simp only [upd2_at]
  by_cases hr : r = p
  · subst hr
    simp only [and_true, if_true]
    rcases (by omega : k = 0 ∨ k = 1 ∨ k = 2 ∨ k = 3 ∨ k = 4 ∨ k = 5 ∨ k = 6 ∨ k = 7 ∨ k = 8 ∨ k = 9 ∨ k = 10) with rfl | rfl | rfl | rfl | rfl | rfl | rfl | rfl | rfl | rfl | rfl <;> simp
  · simp [hr]
theorem addM_id {I : Mem} {t p : Nat} {ar c n1 n2 i pl dp : Int} {id : Nat} (h : id ≤ t ∨ t + 10 < id) : addM I t p ar c n1 n2 i pl dp id = I id := by
  unfold addM
  rw [upd2_id (by omega), upd2_id (by omega), upd2_id (by omega), upd2_id (by omega), upd2_id (by omega), upd2_id (by omega), upd2_id (by omega), upd2_id (by omega)]
set_option maxHeartbeats 1000000 in
theorem build_loop {t sg : Nat} (ht : (t = 9 ∧ sg = 8) ∨ (t = 40 ∧ sg = 38)) {H : List Hd} (hw : wfa H) (hn : norm H) (hx : (tk H).length ≤ 60) {Q : Post} {I0 : Mem} (hT : Txt I0 sg (tk H))
    (hQ : ∀ (I : Mem), TreeOK I t H → Fr t I0 I → Q none I) :
    ∀ (d p : Nat) (ar : Int) (I : Mem), p + d = H.length → BInv I t H p ar → Fr t I0 I → R 67 13 [(0, .inr (some t)), (1, .inr (some sg)), (2, .inl ((tk H).length : Int)), (3, .inl ar), (4, .inl (pos H p : Int)), (5, .inl (p : Int))] [] I Q := by
  have h60 : H.length ≤ 60 := Nat.le_trans (len_tk H) hx
  have ht2 : t = 9 ∨ t = 40 := by rcases ht with ⟨h, -⟩ | ⟨h, -⟩; exact Or.inl h; exact Or.inr h
  have hsg : sg < t ∨ t + 10 < sg := by rcases ht with ⟨rfl, rfl⟩ | ⟨rfl, rfl⟩ <;> omega
  have hszg : sz sg = 60 := by rcases ht with ⟨-, rfl⟩ | ⟨-, rfl⟩ <;> rfl
  intro d
  induction d with
  | zero =>
    intro p ar I hp hB hF
    have hp : p = H.length := by omega
    subst hp
    have hres : Q none I := hQ I ⟨hB.1, hB.2.1, hB.2.2.1, fun r hr => hB.2.2.2.1 r hr (sp_le (by omega)), hB.2.2.2.2.2.2.2⟩ hF
    exact t67_13 t sg ht I _ _ _ _ ⟨fun _ => hres, fun _ => ⟨fun _ => hres, fun h => absurd (by rw [pos_len]; omega) h⟩⟩
  | succ d ih =>
    intro p ar I hp hB hF
    have hp : p < H.length := by omega
    obtain ⟨b1, b2, b3, b4, b5, b6, b7, b8⟩ := hB
    have hpos := pos_add_lt hp
    have h1h := hds_pos (lt H p)
    have hIs : ∀ j, j < (tk H).length → I sg j = (tk H).getD j 0 := fun j hj => by rw [hF sg hsg]; exact hT j hj
    have hc : I sg (pos H p) = lt H p := by rw [hIs _ (by omega), tk_at0 hp]
    refine t67_13 t sg ht I _ _ _ _ ⟨fun h => absurd h (by omega), fun _ => ⟨fun h => absurd h (by omega), fun _ => ?_⟩⟩
    dsimp only
    rw [b1, wrap_succ (by omega)]
    have har : ar < (p : Int) := by
      rcases Nat.eq_zero_or_pos p with h0 | h0
      · rw [b6 h0]; omega
      · obtain ⟨a, i, a1, a2, a3⟩ := kp_surj hw p h0 hp
        rw [b7 a i (by omega) a2 a3]; omega
    refine R_add ht (by omega) (by omega) har ?_
    have js : ∀ id, id ≠ t → upd2 I t 0 ((p + 1 : Nat) : Int) id = I id := fun id h => upd2_id h
    rw [js sg (by omega), hc, js (t + 1) (by omega), js (t + 10) (by omega), js (t + 9) (by omega)]
    have n1e : (if 1 < hds (lt H p) then rd (upd2 I t 0 ((p + 1 : Nat) : Int)) sg ((pos H p + 1 : Nat) : Int) else 0) = nm H p := by
      split
      next h => rw [rd_nat (by rw [hszg]; omega), js sg (by omega), hIs _ (by omega), tk_at1 hp h]
      next h => exact ((norm_at hn hp).1 (by omega)).symm
    have n2e : (if 2 < hds (lt H p) then rd (upd2 I t 0 ((p + 1 : Nat) : Int)) sg ((pos H p + 2 : Nat) : Int) else 0) = pm H p := by
      split
      next h => rw [rd_nat (by rw [hszg]; omega), js sg (by omega), hIs _ (by omega), tk_at2 hp h]
      next h => exact ((norm_at hn hp).2 (by omega)).symm
    rw [n1e, n2e]
    generalize hpl : (if 0 ≤ ar then wrap (((pts (I (t + 1) ar.toNat) : Nat) : Int) - I (t + 10) ar.toNat) else 0) = pl
    generalize hdp : (if 0 ≤ ar then wrap (I (t + 9) ar.toNat + 1) else 0) = dp
    generalize hM : addM (upd2 I t 0 ((p + 1 : Nat) : Int)) t p ar (lt H p) (nm H p) (pm H p) (pos H p : Int) pl dp = M
    have mk : ∀ k r, 1 ≤ k → k ≤ 10 → M (t + k) r = if r = p then (if k = 1 then lt H p else if k = 2 then nm H p else if k = 3 then pm H p else if k = 4 then (pos H p : Int) else if k = 7 then ar else if k = 10 then ((pts (lt H p) : Nat) : Int) else if k = 8 then pl else if k = 9 then dp else I (t + k) r) else I (t + k) r := by
      intro k r h1 h2
      rw [← hM, addM_at k r h2, js (t + k) (by omega)]
    have mid : ∀ id, id ≤ t ∨ t + 10 < id → M id = upd2 I t 0 ((p + 1 : Nat) : Int) id := fun id h => by rw [← hM]; exact addM_id h
    have mne : ∀ k r, 1 ≤ k → k ≤ 10 → r ≠ p → M (t + k) r = I (t + k) r := fun k r h1 h2 h3 => by rw [mk k r h1 h2, if_neg h3]
    have msg : M sg (pos H p) = lt H p := by rw [mid sg (by omega), js sg (by omega)]; exact hc
    refine ⟨rfl, ?_⟩
    rw [rd_nat (by rw [hszg]; omega), msg]
    have hix : wrap ((pos H p : Int) + ((hds (lt H p) : Nat) : Int)) = (pos H (p + 1) : Int) := by
      rw [pos_succ hp, wrap_of (by omega) (by omega)]
      omega
    rw [hix]
    have hMF : Fr t I0 M := fun id hid => by rw [mid id (by omega), js id (by omega)]; exact hF id hid
    suffices hE : EInv M t H p p from t69_0 t ht2 M _ _ (endAll_loop ht2 hw h60 hx hp (I0 := I0) (fun v I' hB' hF' => ⟨v, rfl, ih (p + 1) v I' (by omega) hB' hF'⟩) p 0 M (by omega) hE hMF)
    refine ⟨?_, ?_, ?_, ?_, ?_, Nat.le_refl _, ⟨0, by omega, kp_zero, ?_⟩, ?_⟩
    · rw [mid t (by omega), upd2_at, if_pos ⟨rfl, rfl⟩]
    · intro r hr
      by_cases hrp : r = p
      · subst hrp
        rw [mk 1 r (by omega) (by omega), mk 2 r (by omega) (by omega), mk 3 r (by omega) (by omega), mk 4 r (by omega) (by omega)]
        simp
      · rw [mne 1 r (by omega) (by omega) hrp, mne 2 r (by omega) (by omega) hrp, mne 3 r (by omega) (by omega) hrp, mne 4 r (by omega) (by omega) hrp]
        exact b2 r (by omega)
    · refine ⟨fun _ => ?_, fun r j hr hj hk => ?_⟩
      · by_cases hp0 : p = 0
        · have hm1 := b6 hp0
          rw [mk 7 0 (by omega) (by omega), mk 8 0 (by omega) (by omega), mk 9 0 (by omega) (by omega)]
          rw [hm1] at hpl hdp
          simp only [hp0]
          simp
          exact ⟨hm1, by rw [← hpl]; simp, by rw [← hdp]; simp⟩
        · rw [mne 7 0 (by omega) (by omega) (by omega), mne 8 0 (by omega) (by omega) (by omega), mne 9 0 (by omega) (by omega) (by omega)]
          exact b3.1 (by omega)
      · have hrk := kp_gt (H := H) (p := r) (j := j)
        by_cases hkp : kp H r j = p
        · have ha := b7 r j hr hj hkp
          have h0 : (0 : Int) ≤ ar := by omega
          have hat : ar.toNat = r := by omega
          rw [hkp, mk 7 p (by omega) (by omega), mk 8 p (by omega) (by omega), mk 9 p (by omega) (by omega), mne 9 r (by omega) (by omega) (by omega)]
          simp
          rw [if_pos h0, hat] at hpl hdp
          have hl := (b2 r (by omega)).1
          have hms := b5 r j (by omega) hj (by omega) (by have := kp_step hw hr hj; omega)
          have hp3 := pts_le (lt H r)
          have hd := b8 r (by omega)
          rw [hl, hms, wrap_of (by omega) (by omega)] at hpl
          rw [wrap_of (by omega) (by omega)] at hdp
          exact ⟨ha, by omega, by omega⟩
        · rw [mne 7 _ (by omega) (by omega) hkp, mne 8 _ (by omega) (by omega) hkp, mne 9 _ (by omega) (by omega) hkp, mne 9 r (by omega) (by omega) (by omega)]
          exact b3.2 r j hr hj (by omega)
    · intro r hr h
      have hrp : r ≠ p := by
        have := sp_pos hw (p := r) (by omega)
        omega
      unfold ESp
      rw [mne 5 r (by omega) (by omega) hrp, mne 6 r (by omega) (by omega) hrp]
      exact b4 r (by omega) (by omega)
    · intro r j hr hj h1 h2
      rw [mne 10 r (by omega) (by omega) (by omega)]
      exact b5 r j hr hj h1 h2
    · rw [mk 10 p (by omega) (by omega)]
      simp
    · intro r hr
      by_cases hrp : r = p
      · subst hrp
        rw [mk 9 r (by omega) (by omega)]
        simp
        rw [← hdp]
        by_cases h0 : 0 ≤ ar
        · rw [if_pos h0]
          have hd := b8 ar.toNat (by omega)
          rw [wrap_of (by omega) (by omega)]
          omega
        · rw [if_neg h0]
          omega
      · rw [mne 9 r (by omega) (by omega) hrp]
        exact b8 r (by omega)
/-- Tree.build -/
theorem R_build {t sg : Nat} (ht : (t = 9 ∧ sg = 8) ∨ (t = 40 ∧ sg = 38)) {H : List Hd} (hw : wfa H) (hn : norm H) (hx : (tk H).length ≤ 60) {Q : Post} {I : Mem} (hT : Txt I sg (tk H))
    (hQ : ∀ (I' : Mem), TreeOK I' t H → Fr t I I' → Q none I') : R 67 0 [(0, .inr (some t)), (1, .inr (some sg)), (2, .inl ((tk H).length : Int))] [] I Q := by
  refine t67_0 t sg ht I _ ?_
  dsimp only
  have hF : Fr t I (upd2 I t 0 0) := fun id hid => upd2_id (by omega)
  have := build_loop ht hw hn hx hT hQ H.length 0 (-1) (upd2 I t 0 0) (by omega) ⟨by rw [upd2_at, if_pos ⟨rfl, rfl⟩]; rfl, fun r hr => absurd hr (by omega), ⟨fun h => absurd h (by omega), fun r j hr hj hk => absurd hk (by omega)⟩, fun r hr => absurd hr (by omega), fun r j hr => absurd hr (by omega), fun _ => rfl, fun a j ha hj h => absurd h (by have := kp_gt (H := H) (p := a) (j := j); omega), fun r hr => absurd hr (by omega)⟩ hF
  rw [pos_zero] at this
  exact this
