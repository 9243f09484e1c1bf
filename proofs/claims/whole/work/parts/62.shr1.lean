/-! Shrinker: load, ruleFor, find. -/
theorem sz38 : sz 38 = 60 := rfl
theorem sz39 : sz 39 = 60 := rfl
theorem sz8 : sz 8 = 60 := rfl
def SOK (I : Mem) (H : List Hd) : Prop := I 37 1 = ((tk H).length : Int) ∧ Txt I 38 (tk H) ∧ TreeOK I 40 H
/-- what the shrinker leaves as it was -/
def FrSh (I I' : Mem) : Prop := ∀ id, (id < 37 ∨ 50 < id) → I' id = I id
theorem FrSh.trans {I J K : Mem} (h : FrSh I J) (h2 : FrSh J K) : FrSh I K := fun id hid => (h2 id hid).trans (h id hid)
theorem load_loop {H : List Hd} (hH : prog H) {sg : Nat} (hs : sg = 8 ∨ sg = 39) {I0 : Mem} {Q : Post} (h1 : I0 37 1 = ((tk H).length : Int)) (hT : Txt I0 sg (tk H)) (hQ : ∀ I', SOK I' H → FrSh I0 I' → Q none I') :
    ∀ (d i : Nat) (I : Mem), i + d = (tk H).length → (∀ id, id ≠ 38 → I id = I0 id) → (∀ j, j < i → I 38 j = (tk H).getD j 0) → R 51 12 [(0, .inr (some 37)), (1, .inr (some sg)), (3, .inl (i : Int))] [] I Q := by
  have hx := hH.2.2.2
  have e37 : ∀ I : Mem, (∀ id, id ≠ 38 → I id = I0 id) → I 37 1 = ((tk H).length : Int) := fun I h => by rw [h 37 (by decide)]; exact h1
  intro d
  induction d with
  | zero =>
    intro i I hi hF hD
    have hi : i = (tk H).length := by omega
    subst hi
    refine t51_12 sg hs I _ ⟨fun _ => ?_, fun q => absurd (by rw [e37 I hF]; omega) q⟩
    rw [e37 I hF]
    refine R_build (Or.inr ⟨rfl, rfl⟩) (prog_wfa hH) hH.2.1 hx hD (fun I' hT' hF' => ⟨rfl, hQ I' ⟨?_, fun j hj => ?_, hT'⟩ (fun id hid => ?_)⟩)
    · rw [hF' 37 (by omega)]; exact e37 I hF
    · rw [hF' 38 (by omega)]; exact hD j hj
    · rw [hF' id (by omega), hF id (by omega)]
  | succ d ih =>
    intro i I hi hF hD
    refine t51_12 sg hs I _ ⟨fun q => absurd (by rw [e37 I hF] at q; omega) (fun z : False => z), fun _ => ?_⟩
    dsimp only
    have hsg : sz sg = 60 := by rcases hs with rfl | rfl <;> rfl
    rw [wr_nat (id := 38) (by rw [sz38]; omega), rd_nat (by rw [hsg]; omega), wrap_succ (by omega)]
    refine ih (i + 1) _ (by omega) (fun id hid => by rw [upd2_id hid]; exact hF id hid) (fun j hj => ?_)
    rw [upd2_at]
    by_cases hji : j = i
    · subst hji
      rw [if_pos ⟨rfl, rfl⟩, hF sg (by omega)]
      exact hT j (by omega)
    · rw [if_neg (fun q => hji q.2)]
      exact hD j (by omega)
theorem R_load {H : List Hd} (hH : prog H) {sg : Nat} (hs : sg = 8 ∨ sg = 39) {I : Mem} {Q : Post} (hT : Txt I sg (tk H)) (hQ : ∀ I', SOK I' H → FrSh I I' → Q none I') :
    R 51 0 [(0, .inr (some 37)), (1, .inr (some sg)), (2, .inl ((tk H).length : Int))] [] I Q := by
  have hx := hH.2.2.2
  refine t51_0 sg hs I _ ?_
  dsimp only
  rw [show min ((tk H).length : Int) 60 = ((tk H).length : Int) by omega]
  refine load_loop hH hs (I0 := upd2 I 37 1 ((tk H).length : Int)) (by simp [upd2]) (fun j hj => ?_) (fun I' hS hF => hQ I' hS (fun id hid => ?_)) (tk H).length 0 _ (by omega) (fun _ _ => rfl) (fun j hj => absurd hj (by omega))
  · rw [upd2_id (by omega)]; exact hT j hj
  · rw [hF id hid, upd2_id (by omega)]
section Rule
variable {H : List Hd} {I : Mem} {Q : Post} {p : Nat}
theorem SOK.row (hH : prog H) (h : SOK I H) {q : Nat} (hq : q < H.length) : rd I 41 (q : Int) = lt H q ∧ rd I 42 (q : Int) = nm H q ∧ rd I 43 (q : Int) = pm H q ∧ rd I 44 (q : Int) = (pos H q : Int) ∧ rd I 45 (q : Int) = (pos H (q + sp H q) : Int) ∧ rd I 46 (q : Int) = (sp H q : Int) := by
  have h60 := prog_60 hH
  have hT := h.2.2
  have e : ∀ k, 1 ≤ k → k ≤ 10 → rd I (40 + k) (q : Int) = I (40 + k) q := fun k h1 h2 => tree_rd (t := 40) (H := H) (Or.inr rfl) h60 k q h1 h2 hq
  obtain ⟨a1, a2, a3, a4⟩ := hT.2.1 q hq
  obtain ⟨b1, b2⟩ := hT.2.2.2.1 q hq
  exact ⟨(e 1 (by omega) (by omega)).trans a1, (e 2 (by omega) (by omega)).trans a2, (e 3 (by omega) (by omega)).trans a3, (e 4 (by omega) (by omega)).trans a4, (e 5 (by omega) (by omega)).trans b1, (e 6 (by omega) (by omega)).trans b2⟩
theorem SOK.k0 (hH : prog H) (hp : p < H.length) : wrap ((p : Int) + 1) = (kp H p 0 : Int) := by
  have h60 := prog_60 hH
  rw [kp_zero, wrap_succ (by omega)]
theorem SOK.k1 (hH : prog H) (h : SOK I H) (hp : p < H.length) (h2 : 1 < pts (lt H p)) : wrap (wrap ((p : Int) + 1) + rd I 46 (wrap ((p : Int) + 1))) = (kp H p 1 : Int) := by
  have h60 := prog_60 hH
  have hw := prog_wfa hH
  have hk0 := kp_len hw hp (j := 0) (by omega)
  have hk1 := kp_len hw hp (j := 1) (by omega)
  have e : kp H p 1 = kp H p 0 + sp H (kp H p 0) := kp_succ
  rw [SOK.k0 hH hp, (h.row hH hk0).2.2.2.2.2, wrap_of (by omega) (by omega)]
  omega
theorem SOK.k2 (hH : prog H) (h : SOK I H) (hp : p < H.length) (h2 : 2 < pts (lt H p)) : wrap ((kp H p 1 : Int) + rd I 46 (kp H p 1 : Int)) = (kp H p 2 : Int) := by
  have h60 := prog_60 hH
  have hw := prog_wfa hH
  have hk1 := kp_len hw hp (j := 1) (by omega)
  have hk2 := kp_len hw hp (j := 2) (by omega)
  have e : kp H p 2 = kp H p 1 + sp H (kp H p 1) := kp_succ
  rw [(h.row hH hk1).2.2.2.2.2, wrap_of (by omega) (by omega)]
  omega
theorem dig_rng {c : Int} (h : isDig c = true) : 48 ≤ c ∧ c ≤ 57 := by simpa [isDig] using h
theorem R_ruleO (hH : prog H) (h : SOK I H) (hp : p < H.length) (ho : isOpr (lt H p) = true) (hQ : Q (some (.inl (rule H p : Int))) I) : R 55 0 [(0, .inr (some 37)), (1, .inl (p : Int))] [] I Q := by
  have hw := prog_wfa hH
  have hpt : pts (lt H p) = 2 := by simp [pts, ho]
  have hk0 := kp_len hw hp (j := 0) (by omega)
  have hk1 := kp_len hw hp (j := 1) (by omega)
  unfold rule at hQ
  rw [if_pos ho] at hQ
  refine t55_0 I _ ?_
  rw [SOK.k1 hH h hp (by omega), SOK.k0 hH hp, (h.row hH hk0).1, (h.row hH hk1).1, (h.row hH hp).1, b2i_0, b2i_0]
  refine ⟨fun c => ?_, fun c => ⟨fun c2 => ⟨fun c3 => ?_, fun c3 => ⟨fun c4 => ?_, fun c4 => ?_⟩⟩, fun c2 => ?_⟩⟩
  · rw [if_neg (fun q => by rw [c] at q; cases q.1)] at hQ
    exact hQ
  · have d0 : isDig (lt H (kp H p 0)) = true := by simpa using c
    have d1 : isDig (lt H (kp H p 1)) = true := by simpa using c2
    have r0 := dig_rng d0
    have r1 := dig_rng d1
    rw [wrap_of (x := lt H (kp H p 0) - 48) (by omega) (by omega), wrap_of (x := lt H (kp H p 1) - 48) (by omega) (by omega)] at c3
    rw [if_neg (fun q => by have q2 := q.2.2.1; unfold opv at q2; omega)] at hQ
    exact hQ
  · have d0 : isDig (lt H (kp H p 0)) = true := by simpa using c
    have d1 : isDig (lt H (kp H p 1)) = true := by simpa using c2
    have r0 := dig_rng d0
    have r1 := dig_rng d1
    rw [wrap_of (x := lt H (kp H p 0) - 48) (by omega) (by omega), wrap_of (x := lt H (kp H p 1) - 48) (by omega) (by omega)] at c4
    rw [if_neg (fun q => by have q2 := q.2.2.2; unfold opv at q2; omega)] at hQ
    exact hQ
  · have d0 : isDig (lt H (kp H p 0)) = true := by simpa using c
    have d1 : isDig (lt H (kp H p 1)) = true := by simpa using c2
    have r0 := dig_rng d0
    have r1 := dig_rng d1
    rw [wrap_of (x := lt H (kp H p 0) - 48) (by omega) (by omega), wrap_of (x := lt H (kp H p 1) - 48) (by omega) (by omega)] at c3 c4
    rw [if_pos ⟨d0, d1, by unfold opv; omega, by unfold opv; omega⟩] at hQ
    exact hQ
  · have c2 : isDig (lt H (kp H p 1)) = false := by simpa using c2
    rw [if_neg (fun q => by rw [c2] at q; cases q.2.1)] at hQ
    exact hQ
theorem R_ruleB (hH : prog H) (h : SOK I H) (hp : p < H.length) (ho : lt H p = 58) (hQ : Q (some (.inl (rule H p : Int))) I) : R 56 0 [(0, .inr (some 37)), (1, .inl (p : Int))] [] I Q := by
  have hw := prog_wfa hH
  have h60 := prog_60 hH
  have hpt : pts (lt H p) = 2 := by rw [ho]; rfl
  have hk0 := kp_len hw hp (j := 0) (by omega)
  have hk1 := kp_len hw hp (j := 1) (by omega)
  unfold rule at hQ
  rw [if_neg (by rw [ho]; decide), if_neg (by rw [ho]; decide), if_pos ho] at hQ
  refine t56_0 I _ ?_
  rw [SOK.k1 hH h hp (by omega), SOK.k0 hH hp, (h.row hH hk0).1, (h.row hH hp).2.1]
  refine R_uses (Or.inr rfl) h60 h.2.2 hk1 ⟨_, rfl, ?_⟩
  refine R_uses (Or.inr rfl) h60 h.2.2 hk0 ⟨_, rfl, ?_⟩
  have eU : cU H (nm H p) (kp H p 1) (sp H (kp H p 1)) = uU H p := rfl
  have eF : cU H 33 (kp H p 0) (sp H (kp H p 0)) = cF H p := rfl
  rw [eU, eF]
  have fin : ∀ y : Int, (y = 0 ↔ cF H p ≠ 0) → R 56 67 [(3, .inl (lt H (kp H p 0))), (4, .inl (uU H p : Int))] [.inl y] I Q := by
    intro y hy
    have tail : (¬ (b2i (isDig (lt H (kp H p 0)))) = 0 → (Q (some (.inl 4)) I)) ∧ (¬ (¬ (b2i (isDig (lt H (kp H p 0)))) = 0) → ((¬ (b2i (isVal (lt H (kp H p 0)))) = 0 → (Q (some (.inl 4)) I)) ∧ (¬ (¬ (b2i (isVal (lt H (kp H p 0)))) = 0) → (((b2i (isInp (lt H (kp H p 0)))) = 0 → ((¬ (uU H p : Int) = 1 → (Q (some (.inl 0)) I)) ∧ (¬ (¬ (uU H p : Int) = 1) → ((y = 0 → (Q (some (.inl 0)) I)) ∧ (¬ (y = 0) → (Q (some (.inl 5)) I)))))) ∧ (¬ ((b2i (isInp (lt H (kp H p 0)))) = 0) → (Q (some (.inl 4)) I)))))) ∨ (uU H p = 0 ∧ cF H p = 0) := by
      by_cases h3 : uU H p = 0 ∧ cF H p = 0
      · exact Or.inr h3
      · rw [if_neg h3] at hQ
        left
        rw [b2i_0, b2i_0, b2i_0]
        refine ⟨fun c => ?_, fun c => ⟨fun c2 => ?_, fun c2 => ⟨fun c3 => ⟨fun c4 => ?_, fun c4 => ⟨fun c5 => ?_, fun c5 => ?_⟩⟩, fun c3 => ?_⟩⟩⟩
        · rw [if_pos (Or.inl (by simpa using c))] at hQ; exact hQ
        · rw [if_pos (Or.inr (Or.inl (by simpa using c2)))] at hQ; exact hQ
        · rw [if_neg (by simp at c c2; rw [c, c2, c3]; decide), if_neg (fun q => c4 (by omega))] at hQ; exact hQ
        · rw [if_neg (by simp at c c2; rw [c, c2, c3]; decide), if_neg (fun q => hy.mp c5 q.2)] at hQ; exact hQ
        · rw [if_neg (by simp at c c2; rw [c, c2, c3]; decide), if_pos ⟨by omega, by
            rcases Nat.eq_zero_or_pos (cF H p) with z | z
            · exact z
            · exact absurd (hy.mpr (by omega)) c5⟩] at hQ; exact hQ
        · rw [if_pos (Or.inr (Or.inr (by simpa using c3)))] at hQ; exact hQ
    refine t56_67 I _ _ _ ⟨fun c => ?_, fun c => ⟨fun c2 => ?_, fun c2 => ?_⟩⟩
    · rcases tail with t | t
      · exact t
      · omega
    · rcases tail with t | t
      · exact t
      · exact absurd t.2 (hy.mp c2)
    · rw [if_pos ⟨by omega, by
        rcases Nat.eq_zero_or_pos (cF H p) with z | z
        · exact z
        · exact absurd (hy.mpr (by omega)) c2⟩] at hQ
      exact hQ
  refine ⟨fun c => fin 0 ⟨fun _ => by omega, fun _ => rfl⟩, fun c => fin 1 ⟨fun q => by omega, fun q => absurd (by omega) q⟩⟩
theorem R_ruleD (hH : prog H) (h : SOK I H) (hp : p < H.length) (ho : lt H p = 64) (hQ : Q (some (.inl (rule H p : Int))) I) : R 57 0 [(0, .inr (some 37)), (1, .inl (p : Int))] [] I Q := by
  have hw := prog_wfa hH
  have h60 := prog_60 hH
  have hpt : pts (lt H p) = 2 := by rw [ho]; rfl
  have hk0 := kp_len hw hp (j := 0) (by omega)
  have hk1 := kp_len hw hp (j := 1) (by omega)
  unfold rule at hQ
  rw [if_neg (by rw [ho]; decide), if_neg (by rw [ho]; decide), if_neg (by rw [ho]; decide), if_pos ho] at hQ
  refine t57_0 I _ ?_
  rw [SOK.k1 hH h hp (by omega), SOK.k0 hH hp, (h.row hH hp).2.1]
  refine R_calls (Or.inr rfl) h60 h.2.2 hk1 ⟨_, rfl, ?_⟩
  have eS : cC H (nm H p) (kp H p 1) (sp H (kp H p 1)) = cS H p := rfl
  have eB : cC H (nm H p) (kp H p 0) (sp H (kp H p 0)) = cB H p := rfl
  rw [eS]
  refine ⟨fun c => ⟨fun c2 => ?_, fun c2 => ?_⟩, fun c => ?_⟩
  · rw [if_neg (by omega), if_neg (by omega)] at hQ
    exact hQ
  · refine R_calls (Or.inr rfl) h60 h.2.2 hk0 ⟨_, rfl, ?_⟩
    rw [eB]
    refine ⟨fun c3 => ?_, fun c3 => ?_⟩
    · rw [if_neg (by omega), if_neg (by omega)] at hQ
      exact hQ
    · rw [if_neg (by omega), if_pos (by omega)] at hQ
      exact hQ
  · rw [if_pos (by omega)] at hQ
    exact hQ
theorem R_ruleFor (hH : prog H) (h : SOK I H) (hp : p < H.length) (hQ : Q (some (.inl (rule H p : Int))) I) : R 54 0 [(0, .inr (some 37)), (1, .inl (p : Int))] [] I Q := by
  have hw := prog_wfa hH
  refine t54_0 I _ ?_
  rw [(h.row hH hp).1, b2i_0]
  refine ⟨fun c => ⟨fun c2 => ⟨fun c3 => ⟨fun c4 => ?_, fun c4 => ?_⟩, fun c3 => ?_⟩, fun c2 => ?_⟩, fun c => ?_⟩
  · unfold rule at hQ
    rw [if_neg (by rw [c]; decide), if_neg c2, if_neg c3, if_neg c4] at hQ
    exact hQ
  · exact R_ruleD hH h hp (by simpa using c4) ⟨_, rfl, hQ⟩
  · exact R_ruleB hH h hp (by simpa using c3) ⟨_, rfl, hQ⟩
  · have c2 : lt H p = 63 := by simpa using c2
    have hk0 := kp_len hw hp (j := 0) (by rw [c2]; decide)
    unfold rule at hQ
    rw [if_neg (by rw [c]; decide), if_pos c2] at hQ
    rw [SOK.k0 hH hp, (h.row hH hk0).1, b2i_0]
    refine ⟨fun c5 => ?_, fun c5 => ?_⟩
    · rw [if_neg (by rw [c5]; decide)] at hQ; exact hQ
    · rw [if_pos (by simpa using c5)] at hQ; exact hQ
  · exact R_ruleO hH h hp (by simpa using c) ⟨_, rfl, hQ⟩
end Rule
/-- the first one that can be simplified -/
def fst (H : List Hd) : Nat → Nat → Nat
  | 0, p => p
  | n + 1, p => if rule H p ≠ 0 then p else fst H n (p + 1)
def fsh (H : List Hd) : Nat := fst H H.length 0
theorem fst_le (H : List Hd) : ∀ n p, p ≤ fst H n p ∧ fst H n p ≤ p + n := by
  intro n
  induction n with
  | zero => intro p; exact ⟨Nat.le_refl _, Nat.le_refl _⟩
  | succ n ih =>
    intro p
    unfold fst
    split
    · omega
    · have := ih (p + 1); omega
theorem fst_rule (H : List Hd) : ∀ n p, fst H n p < p + n → rule H (fst H n p) ≠ 0 := by
  intro n
  induction n with
  | zero => intro p h; unfold fst at h; omega
  | succ n ih =>
    intro p h
    unfold fst at h ⊢
    split at h
    next hr => rw [if_pos hr]; exact hr
    next hr => rw [if_neg hr]; exact ih (p + 1) (by omega)
theorem fsh_le (H : List Hd) : fsh H ≤ H.length := by have := (fst_le H H.length 0).2; unfold fsh; omega
theorem fsh_rule {H : List Hd} (h : fsh H < H.length) : rule H (fsh H) ≠ 0 := fst_rule H H.length 0 (by unfold fsh at h; omega)
theorem R_find' {H : List Hd} {I : Mem} {Q : Post} (hH : prog H) (h : SOK I H) (h1 : ¬ fsh H < H.length → Q (some (.inl 0)) I) (h2 : fsh H < H.length → Q (some (.inl 1)) (upd2 (upd2 I 37 3 (fsh H : Int)) 37 4 (rule H (fsh H) : Int))) : R 53 0 [(0, .inr (some 37))] [] I Q := by
  have h60 := prog_60 hH
  have hsz := h.2.2.1
  refine t53_0 I ?_
  have loop : ∀ n p, p + n = H.length → fst H n p = fsh H → R 53 2 [(0, .inr (some 37)), (1, .inl (p : Int))] [] I Q := by
    intro n
    induction n with
    | zero =>
      intro p hp hf
      have : fst H 0 p = p := rfl
      refine t53_2 I _ ⟨fun _ => ⟨Or.inl rfl, h1 (by omega)⟩, fun q => absurd (by rw [hsz]; omega) q⟩
    | succ n ih =>
      intro p hp hf
      unfold fst at hf
      refine t53_2 I _ ⟨fun q => absurd q (by rw [hsz]; omega), fun _ => R_ruleFor hH h (by omega) ⟨_, rfl, fun c => ?_, fun c => ?_⟩⟩
      · rw [if_neg (by omega)] at hf
        rw [wrap_succ (by omega)]
        exact ih (p + 1) (by omega) hf
      · rw [if_pos (by omega)] at hf
        subst hf
        exact ⟨Or.inr rfl, h2 (by omega)⟩
  exact loop H.length 0 (by omega) rfl
