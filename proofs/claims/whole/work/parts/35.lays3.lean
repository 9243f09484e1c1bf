/-! The model's lays. -/
def b6 (I : Mem) (p : Nat) (i : Int) : Mem := upd2 (upd2 (upd2 (upd2 (upd2 (upd2 I 77 20 ((p + 1 : Nat) : Int)) 89 p i) 92 p (-9)) 93 p 0) 95 p 0) 96 p 1
theorem b6_id {I : Mem} {p : Nat} {i : Int} {id : Nat} (h : id ≠ 77) (h1 : id ≠ 89) (h2 : id ≠ 92) (h3 : id ≠ 93) (h4 : id ≠ 95) (h5 : id ≠ 96) : b6 I p i id = I id := by
  unfold b6
  rw [upd2_id h5, upd2_id h4, upd2_id h3, upd2_id h2, upd2_id h1, upd2_id h]
theorem b6_ne {I : Mem} {p r : Nat} {i : Int} {id : Nat} (h : id ≠ 77) (hr : r ≠ p) : b6 I p i id r = I id r := by
  unfold b6
  simp [upd2, h, hr]
/-- all rows that lays writes at p, as one update -/
def stepL (I : Mem) (p : Nat) (i av dv ov tv : Int) : Mem := upd2 (upd2 (upd2 (upd2 (upd2 (upd2 I 77 20 ((p + 1 : Nat) : Int)) 89 p i) 92 p av) 93 p dv) 95 p ov) 96 p tv
theorem stepL_LMod {H : List Hd} (hw : wfa H) (hx : (tk H).length ≤ 60) {I J : Mem} {p : Nat} {av dv ov tv : Int} (hp : p < H.length) (hL : LMod I H p)
    (e77 : J 77 20 = ((p + 1 : Nat) : Int)) (e79 : J 79 = I 79) (e89 : ∀ r, J 89 r = if r = p then (pos H p : Int) else I 89 r) (e92 : ∀ r, J 92 r = if r = p then av else I 92 r) (e93 : ∀ r, J 93 r = if r = p then dv else I 93 r)
    (e95 : ∀ r, J 95 r = if r = p then ov else I 95 r) (e96 : ∀ r, J 96 r = if r = p then tv else I 96 r) (hd : 0 ≤ dv ∧ dv ≤ (p : Int)) (htb : isB tv)
    (h0 : p = 0 → av = -9 ∧ dv = 0 ∧ ov = 0 ∧ tv = 1) (e94 : ∀ a j, a < H.length → j < pts (lt H a) → kp H a j < p → J 94 (3 * a + j) = I 94 (3 * a + j))
    (hk : ∀ a j, a < H.length → j < pts (lt H a) → kp H a j = p → av = (a : Int) ∧ dv = I 93 a + 1 ∧ J 94 (3 * a + j) = (p : Int) ∧ (tv = if lt H a = 64 ∧ j = 0 then 1 else if (lt H a = 63 ∨ lt H a = 58 ∨ lt H a = 64) ∧ j ≠ 0 then I 96 a else 0) ∧ ov = if lt H a = 64 ∧ j = 0 then nm H a else I 95 a) :
    LMod J H (p + 1) := by
  obtain ⟨⟨m1, m2⟩, -, m4, m5, m6, m7, m8⟩ := hL
  refine ⟨⟨?_, fun r hr => ?_⟩, e77, by rw [e79]; exact m4, ⟨fun _ => ?_, fun a j ha hj hkp => ?_⟩, fun r hr => ?_, fun r hr => ?_, ?_⟩
  · unfold Txt; rw [e79]; exact m1
  · rw [e89]
    split
    next h => rw [h]
    next h => exact m2 r (by omega)
  · rw [e92, e93]
    by_cases hp0 : p = 0
    · rw [if_pos hp0.symm, if_pos hp0.symm]; exact ⟨(h0 hp0).1, (h0 hp0).2.1⟩
    · rw [if_neg (by omega), if_neg (by omega)]; exact m5.1 (by omega)
  · have hg := kp_gt (H := H) (p := a) (j := j)
    by_cases e : kp H a j = p
    · obtain ⟨k1, k2, k3, -⟩ := hk a j ha hj e
      rw [e92, e93, e93, if_pos e, if_pos e, if_neg (by omega), k3, e]
      exact ⟨k1, k2, rfl⟩
    · rw [e92, e93, e93, if_neg e, if_neg e, if_neg (by omega), e94 a j ha hj (by omega)]
      exact m5.2 a j ha hj (by omega)
  · rw [e93]
    split
    next h => rw [h]; exact hd
    next h => exact m6 r (by omega)
  · rw [e96]
    split
    next h => exact htb
    next h => exact m7 r (by omega)
  · refine m8.upd (fun q hq => by rw [e96, if_neg (by omega)]) (fun q hq => by rw [e95, if_neg (by omega)]) (fun hp0 => ?_) (fun a j ha hj hkp => ?_)
    · rw [e95, e96, if_pos hp0.symm, if_pos hp0.symm]; exact ⟨(h0 hp0).2.2.2, (h0 hp0).2.2.1⟩
    · obtain ⟨-, -, -, k4, k5⟩ := hk a j ha hj hkp
      rw [e95, e96, if_pos rfl, if_pos rfl]
      exact ⟨k4, k5⟩
theorem wrap_pos {H : List Hd} {p : Nat} (hp : p < H.length) (hx : (tk H).length ≤ 60) : wrap ((pos H p : Int) + wrap (1 + ((hds (lt H p) - 1 : Nat) : Int))) = (pos H (p + 1) : Int) := by
  have h1 := hds_pos (lt H p)
  have h2 := pos_add_lt hp
  rw [pos_succ hp, wrap_of (x := 1 + ((hds (lt H p) - 1 : Nat) : Int)) (by omega) (by omega), wrap_of (by omega) (by omega)]
  omega
set_option maxHeartbeats 1000000 in
theorem lays_loop {H : List Hd} (hw : wfa H) (hx : (tk H).length ≤ 60) {Q : Post} {I0 : Mem}
    (hQ : ∀ (I : Mem), LMod I H H.length → FrL I0 I → Fr77 I0 I → (∀ r, r < H.length → EMd I H r) → R 133 0 [(0, .inr (some 77))] [] I (fun r1 I1 => r1 = none ∧ Q none I1)) :
    ∀ (d p o : Nat) (I : Mem) (c k : Nat → Nat), p + d = H.length → LMod I H p → FrL I0 I → Fr77 I0 I → Stk I H p o c k → (∀ r, r < p → r + sp H r ≤ p → EMd I H r) → (p = 0 → o = 0) → (0 < p → p < H.length → 0 < o ∧ k (o - 1) < pts (lt H (c (o - 1))) ∧ kp H (c (o - 1)) (k (o - 1)) = p) →
      R 127 9 [(0, .inr (some 77)), (1, .inl (o : Int)), (2, .inl (pos H p : Int))] [] I Q := by
  have h60 : H.length ≤ 60 := Nat.le_trans (len_tk H) hx
  intro d
  induction d with
  | zero =>
    intro p o I c k hp hL hF hF7 hS hE h0 ht
    have hp : p = H.length := by omega
    subst hp
    refine t127_9 I _ _ ⟨inb_nat (i := 60) (by omega), ?_⟩
    rw [show (60 : Int).toNat = 60 from rfl, hL.2.2.1, pos_len]
    exact ⟨fun _ => hQ I hL hF hF7 (fun r hr => hE r hr (sp_le (by omega))), fun h => absurd (Int.le_refl _) h⟩
  | succ d ih =>
    intro p o I c k hp hL hF hF7 hS hE h0 ht
    have hp : p < H.length := by omega
    have hpos := pos_add_lt hp
    have hh1 := hds_pos (lt H p)
    -- go on behind the push
    have close : ∀ (J : Mem) (o' : Nat) (c' k' : Nat → Nat), LMod J H (p + 1) → FrL I0 J → Fr77 I0 J → Stk J H (p + 1) o' c' k' → 0 < o' → c' (o' - 1) = p → k' (o' - 1) = 0 → J 90 = I 90 → J 91 = I 91 → R 127 138 [(0, .inr (some 77)), (1, .inl (o' : Int)), (2, .inl (pos H (p + 1) : Int))] [] J Q := by
      intro J o' c' k' hLJ hFJ hF7J hSJ ho' hc' hk' e90 e91
      refine lays_close hw hx hp (I0 := I0) (fun I2 o2 c2 k2 g1 g2 g3 g4 g5 g6 g7 => ih (p + 1) o2 I2 c2 k2 (by omega) g1 g2 g3 g4 g5 (fun h => absurd h (by omega)) (fun _ hlt => ?_)) o' J c' k' hLJ hFJ hF7J hSJ (fun r hr h => ?_) (fun h => absurd h (by omega)) (fun _ => ?_)
      · have ho2 : 0 < o2 := by
          rcases Nat.eq_zero_or_pos o2 with z | z
          · exact absurd (g6 z) (by omega)
          · exact z
        exact ⟨ho2, g7 ho2⟩
      · unfold EMd
        rw [e90, e91]
        refine hE r ?_ ?_
        · rcases h with h | ⟨h, h2⟩
          · have := sp_pos hw (p := r) (by omega); omega
          · rw [hc'] at h2; omega
        · rcases h with h | ⟨h, h2⟩
          · exact h
          · rw [hc'] at h2; omega
      · rw [hc', hk', kp_zero]
        exact ⟨Nat.zero_le _, rfl⟩
    refine t127_9 I _ _ ⟨inb_nat (i := 60) (by omega), ?_⟩
    rw [show (60 : Int).toNat = 60 from rfl, hL.2.2.1, hL.2.1, toNat_c, wrap_succ (by omega)]
    refine ⟨fun h => absurd h (by omega), fun _ => ?_⟩
    dsimp only
    refine ⟨inb_nat (by omega), inb_nat (by omega), inb_nat (by omega), inb_nat (by omega), inb_nat (by omega), Or.inr rfl, ?_⟩
    rw [show upd2 (upd2 (upd2 (upd2 (upd2 (upd2 I 77 20 ((p + 1 : Nat) : Int)) 89 p (pos H p : Int)) 92 p (-9)) 93 p 0) 95 p 0) 96 p 1 = b6 I p (pos H p : Int) from rfl]
    rcases Nat.eq_zero_or_pos p with hp0 | hp0
    · -- the whole
      have ho := h0 hp0
      subst ho
      refine ⟨fun _ => ?_, fun h => absurd (by omega) h⟩
      rw [show ((0 : Nat) : Int).toNat = 0 from rfl]
      generalize hJ : upd2 (upd2 (b6 I p (pos H p : Int)) 97 0 (p : Int)) 98 0 0 = J
      have jo : ∀ id, id ≠ 97 → id ≠ 98 → J id = b6 I p (pos H p : Int) id := fun id h1 h2 => by rw [← hJ, upd2_id h2, upd2_id h1]
      have rows : ∀ (id : Nat) (v : Int), id ≠ 97 → id ≠ 98 → id ≠ 77 → b6 I p (pos H p : Int) id p = v → ∀ r, J id r = if r = p then v else I id r := by
        intro id v h1 h2 h3 hv r
        rw [jo id h1 h2]
        split
        next h => rw [h]; exact hv
        next h => exact b6_ne h3 h
      have hLJ : LMod J H (p + 1) := by
        refine stepL_LMod hw hx (av := -9) (dv := 0) (ov := 0) (tv := 1) hp hL ?_ ?_ (rows 89 _ (by decide) (by decide) (by decide) ?_) (rows 92 _ (by decide) (by decide) (by decide) ?_) (rows 93 _ (by decide) (by decide) (by decide) ?_) (rows 95 _ (by decide) (by decide) (by decide) ?_) (rows 96 _ (by decide) (by decide) (by decide) ?_) ⟨by omega, by omega⟩ (Or.inr rfl) (fun _ => ⟨rfl, rfl, rfl, rfl⟩) (fun a j ha hj hk => absurd hk (by omega)) (fun a j ha hj hk => absurd hk (by have := kp_gt (H := H) (p := a) (j := j); omega))
        · rw [jo 77 (by decide) (by decide)]; simp [b6, upd2]
        · rw [jo 79 (by decide) (by decide)]; exact b6_id (by decide) (by decide) (by decide) (by decide) (by decide) (by decide)
        · simp [b6, upd2]
        · simp [b6, upd2]
        · simp [b6, upd2]
        · simp [b6, upd2]
        · simp [b6, upd2]
      obtain ⟨l1, l2⟩ := hLJ.1.let_ hx (r := p) (by omega) hp
      refine ⟨inb_nat (by omega), inb_nat (by omega), l1, ?_⟩
      rw [l2, wrap_pos hp hx, show wrap (((0 : Nat) : Int) + 1) = ((1 : Nat) : Int) from wrap_succ (by omega)]
      refine close J 1 (fun _ => p) (fun _ => 0) hLJ (fun id h1 h2 => ?_) (fun i hi => ?_) ⟨fun q hq => ?_, fun q hq => absurd hq (by omega), fun _ => hp0⟩ (by omega) rfl rfl ?_ ?_
      · rw [jo id (by omega) (by omega), b6_id h1 (by omega) (by omega) (by omega) (by omega) (by omega)]
        exact hF id h1 h2
      · rw [jo 77 (by decide) (by decide)]
        have : b6 I p (pos H p : Int) 77 i = I 77 i := by simp [b6, upd2, hi]
        rw [this]
        exact hF7 i hi
      · have hq0 : q = 0 := by omega
        subst hq0
        refine ⟨?_, ?_, Nat.lt_succ_self p, Nat.zero_le _⟩
        · rw [← hJ, upd2_id (show 97 ≠ 98 by decide), upd2_at, if_pos ⟨rfl, rfl⟩]
        · rw [← hJ, upd2_at, if_pos ⟨rfl, rfl⟩]; rfl
      · rw [jo 90 (by decide) (by decide)]; exact b6_id (by decide) (by decide) (by decide) (by decide) (by decide) (by decide)
      · rw [jo 91 (by decide) (by decide)]; exact b6_id (by decide) (by decide) (by decide) (by decide) (by decide) (by decide)
    · -- a part of another
      obtain ⟨ho, hk1, hk2⟩ := ht hp0 hp
      obtain ⟨o, rfl⟩ : ∃ o', o = o' + 1 := ⟨o - 1, by omega⟩
      rw [Nat.add_sub_cancel] at hk1 hk2
      obtain ⟨s1, s2, s3, s4⟩ := hS.1 o (by omega)
      have hal : c o < H.length := by omega
      have hp3 := pts_le (lt H (c o))
      refine ⟨fun h => absurd h (by omega), fun _ => ?_⟩
      rw [wrap_pred (by omega), toNat_c, toNat_c, wrap_succ (by omega)]
      have B97 : b6 I p (pos H p : Int) 97 = I 97 := b6_id (by decide) (by decide) (by decide) (by decide) (by decide) (by decide)
      have B98 : b6 I p (pos H p : Int) 98 = I 98 := b6_id (by decide) (by decide) (by decide) (by decide) (by decide) (by decide)
      rw [B97, B98, s1, s2]
      refine ⟨inb_nat (by omega), inb_nat (by omega), ?_⟩
      have bne : ∀ id r, id ≠ 77 → r ≠ p → b6 I p (pos H p : Int) id r = I id r := fun id r h1 h2 => b6_ne h1 h2
      have hMb : MTx (b6 I p (pos H p : Int)) H p := ⟨by unfold Txt; rw [b6_id (by decide) (by decide) (by decide) (by decide) (by decide) (by decide)]; exact hL.1.1, fun r hr => by rw [bne 89 r (by decide) (by omega)]; exact hL.1.2 r hr⟩
      have hdd := hL.2.2.2.2.1 (c o) s3
      refine R_laysKid hx hMb hp s3 hk1 (by rw [bne 93 _ (by decide) (by omega)]; omega) (by rw [bne 96 _ (by decide) (by omega)]; exact hL.2.2.2.2.2.1 _ s3) ⟨rfl, inb_nat (by omega), inb_nat (by omega), ?_⟩
      rw [bne 93 _ (by decide) (by omega), bne 95 _ (by decide) (by omega), bne 96 _ (by decide) (by omega)]
      generalize hov : (if lt H (c o) = 64 ∧ k o = 0 then nm H (c o) else I 95 (c o)) = ov
      generalize htv : (if lt H (c o) = 64 ∧ k o = 0 then 1 else if (lt H (c o) = 63 ∨ lt H (c o) = 58 ∨ lt H (c o) = 64) ∧ k o ≠ 0 then I 96 (c o) else 0) = tv
      have htb : isB tv := by
        rw [← htv]
        split
        · exact Or.inr rfl
        · split
          · exact hL.2.2.2.2.2.1 _ s3
          · exact Or.inl rfl
      have L98 : lkM (b6 I p (pos H p : Int)) p (c o) (3 * c o + k o) (I 93 (c o) + 1) ov tv 98 o = (k o : Int) := by
        unfold lkM
        rw [upd2_id (by decide), upd2_id (by decide), upd2_id (by decide), upd2_id (by decide), upd2_id (by decide), B98]
        exact s2
      rw [L98, wrap_succ (by omega)]
      refine ⟨inb_nat (by omega), inb_nat (by omega), ?_⟩
      generalize hJ : upd2 (upd2 (upd2 (lkM (b6 I p (pos H p : Int)) p (c o) (3 * c o + k o) (I 93 (c o) + 1) ov tv) 98 o ((k o + 1 : Nat) : Int)) 97 (o + 1) (p : Int)) 98 (o + 1) 0 = J
      have jo : ∀ id, id ≠ 97 → id ≠ 98 → J id = lkM (b6 I p (pos H p : Int)) p (c o) (3 * c o + k o) (I 93 (c o) + 1) ov tv id := fun id h1 h2 => by rw [← hJ, upd2_id h2, upd2_id h1, upd2_id h2]
      have lk : ∀ id, id ≠ 92 → id ≠ 93 → id ≠ 94 → id ≠ 95 → id ≠ 96 → lkM (b6 I p (pos H p : Int)) p (c o) (3 * c o + k o) (I 93 (c o) + 1) ov tv id = b6 I p (pos H p : Int) id := by
        intro id h1 h2 h3 h4 h5
        unfold lkM
        rw [upd2_id h5, upd2_id h4, upd2_id h3, upd2_id h2, upd2_id h1]
      have rows : ∀ (id : Nat) (v : Int), id ≠ 97 → id ≠ 98 → id ≠ 77 → id ≠ 94 → lkM (b6 I p (pos H p : Int)) p (c o) (3 * c o + k o) (I 93 (c o) + 1) ov tv id p = v → ∀ r, J id r = if r = p then v else I id r := by
        intro id v h1 h2 h3 h4 hv r
        rw [jo id h1 h2]
        split
        next h => rw [h]; exact hv
        next h =>
          have : lkM (b6 I p (pos H p : Int)) p (c o) (3 * c o + k o) (I 93 (c o) + 1) ov tv id r = b6 I p (pos H p : Int) id r := by
            unfold lkM
            simp [upd2, h, h4]
          rw [this]
          exact b6_ne h3 h
      have j94 : ∀ r, J 94 r = if r = 3 * c o + k o then (p : Int) else I 94 r := by
        intro r
        rw [jo 94 (by decide) (by decide)]
        unfold lkM
        rw [upd2_id (by decide), upd2_id (by decide), upd2_at]
        have e : b6 I p (pos H p : Int) 94 = I 94 := b6_id (by decide) (by decide) (by decide) (by decide) (by decide) (by decide)
        rw [upd2_id (by decide), upd2_id (by decide), e]
        by_cases h : r = 3 * c o + k o <;> simp [h]
      have uniq : ∀ a j, a < H.length → j < pts (lt H a) → kp H a j = p → a = c o ∧ j = k o := fun a j ha hj hkp => kp_uniq hw ha hal hj hk1 (hkp.trans hk2.symm)
      have hLJ : LMod J H (p + 1) := by
        refine stepL_LMod hw hx (av := (c o : Int)) (dv := I 93 (c o) + 1) (ov := ov) (tv := tv) hp hL ?_ ?_ (rows 89 _ (by decide) (by decide) (by decide) (by decide) ?_) (rows 92 _ (by decide) (by decide) (by decide) (by decide) ?_) (rows 93 _ (by decide) (by decide) (by decide) (by decide) ?_) (rows 95 _ (by decide) (by decide) (by decide) (by decide) ?_) (rows 96 _ (by decide) (by decide) (by decide) (by decide) ?_) ⟨by omega, by omega⟩ htb (fun h => absurd h (by omega)) (fun a j ha hj hk => ?_) (fun a j ha hj hk => ?_)
        · rw [jo 77 (by decide) (by decide), lk 77 (by decide) (by decide) (by decide) (by decide) (by decide)]; simp [b6, upd2]
        · rw [jo 79 (by decide) (by decide), lk 79 (by decide) (by decide) (by decide) (by decide) (by decide)]; exact b6_id (by decide) (by decide) (by decide) (by decide) (by decide) (by decide)
        · rw [lk 89 (by decide) (by decide) (by decide) (by decide) (by decide)]; simp [b6, upd2]
        · simp [lkM, upd2]
        · simp [lkM, upd2]
        · simp [lkM, upd2]
        · simp [lkM, upd2]
        · rw [j94, if_neg]
          intro h
          have hp3a := pts_le (lt H a)
          have e1 : a = c o := by omega
          have e2 : j = k o := by omega
          subst e1
          subst e2
          omega
        · obtain ⟨e1, e2⟩ := uniq a j ha hj hk
          subst e1
          subst e2
          rw [j94, if_pos rfl, htv, hov]
          exact ⟨rfl, rfl, rfl, rfl, rfl⟩
      obtain ⟨l1, l2⟩ := hLJ.1.let_ hx (r := p) (by omega) hp
      refine ⟨l1, ?_⟩
      rw [l2, wrap_pos hp hx]
      have j97 : ∀ r, J 97 r = if r = o + 1 then (p : Int) else I 97 r := by
        intro r
        rw [← hJ, upd2_id (show 97 ≠ 98 by decide), upd2_at, upd2_id (show 97 ≠ 98 by decide), lk 97 (by decide) (by decide) (by decide) (by decide) (by decide), B97]
        by_cases h : r = o + 1 <;> simp [h]
      have j98 : ∀ r, J 98 r = if r = o + 1 then 0 else if r = o then ((k o + 1 : Nat) : Int) else I 98 r := by
        intro r
        rw [← hJ, upd2_at, upd2_id (show 98 ≠ 97 by decide), upd2_at, lk 98 (by decide) (by decide) (by decide) (by decide) (by decide), B98]
        by_cases h : r = o + 1
        · simp [h]
        · by_cases h2 : r = o <;> simp [h, h2]
      refine close J (o + 2) (fun q => if q = o + 1 then p else c q) (fun q => if q = o + 1 then 0 else if q = o then k o + 1 else k q) hLJ (fun id h1 h2 => ?_) (fun i hi => ?_) ⟨fun q hq => ?_, fun q hq => ?_, fun _ => ?_⟩ (by omega) ?_ ?_ ?_ ?_
      · rw [jo id (by omega) (by omega), lk id (by omega) (by omega) (by omega) (by omega) (by omega), b6_id h1 (by omega) (by omega) (by omega) (by omega) (by omega)]
        exact hF id h1 h2
      · rw [jo 77 (by decide) (by decide), lk 77 (by decide) (by decide) (by decide) (by decide) (by decide)]
        have : b6 I p (pos H p : Int) 77 i = I 77 i := by simp [b6, upd2, hi]
        rw [this]
        exact hF7 i hi
      · rw [j97, j98]
        by_cases h1 : q = o + 1
        · simp only [h1, if_true]
          exact ⟨trivial, rfl, Nat.lt_succ_self p, by omega⟩
        · simp only [h1, if_false]
          obtain ⟨u1, u2, u3, u4⟩ := hS.1 q (by omega)
          by_cases h2 : q = o
          · simp only [h2, if_true]
            exact ⟨s1, trivial, by omega, s4⟩
          · simp only [h2, if_false]
            exact ⟨u1, u2, by omega, u4⟩
      · have hq1 : ¬ q = o + 1 := by omega
        simp only [hq1, if_false]
        by_cases h2 : q = o
        · subst h2
          simp only [if_true]
          rw [Nat.add_sub_cancel]
          exact ⟨by omega, by omega, hk2⟩
        · have hq2 : ¬ q + 1 = o + 1 := by omega
          simp only [h2, hq2, if_false]
          exact hS.2.1 q (by omega)
      · simp only [show ¬ (0 = o + 1) by omega, if_false]
        exact hS.2.2 (by omega)
      · simp
      · simp
      · rw [jo 90 (by decide) (by decide), lk 90 (by decide) (by decide) (by decide) (by decide) (by decide)]; exact b6_id (by decide) (by decide) (by decide) (by decide) (by decide) (by decide)
      · rw [jo 91 (by decide) (by decide), lk 91 (by decide) (by decide) (by decide) (by decide) (by decide)]; exact b6_id (by decide) (by decide) (by decide) (by decide) (by decide) (by decide)
