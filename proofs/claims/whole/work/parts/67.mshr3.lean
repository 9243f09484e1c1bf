/-! The model's shrinkOnce. -/
def FrO (I J : Mem) : Prop := (∀ id, id ≠ 77 → id ≠ 79 → (id < 89 ∨ 100 < id) → J id = I id) ∧ (∀ k, k ≠ 20 → k ≠ 32 → k ≠ 34 → J 77 k = I 77 k) ∧ (∀ j, 60 < j → J 79 j = I 79 j)
theorem FrO.trans {I J K : Mem} (h : FrO I J) (h2 : FrO J K) : FrO I K := ⟨fun id a b c => (h2.1 id a b c).trans (h.1 id a b c), fun k a b c => (h2.2.1 k a b c).trans (h.2.1 k a b c), fun j a => (h2.2.2 j a).trans (h.2.2 j a)⟩
theorem FrO.rfl' {I : Mem} : FrO I I := ⟨fun _ _ _ _ => rfl, fun _ _ _ _ => rfl, fun _ _ => rfl⟩
theorem FrH.frO {I J : Mem} (h : FrH I J) : FrO I J := ⟨fun id a _ _ => h.1 id a, fun k _ b _ => h.2 k b, fun j _ => by rw [h.1 79 (by decide)]⟩
theorem FrP.frO {I J : Mem} (h : FrP I J) : FrO I J := ⟨fun id a _ b => h.1 id a (by omega), fun k _ _ b => h.2 k b, fun j _ => by rw [h.1 79 (by decide) (by decide)]⟩
theorem copy_loop {N : List Hd} (hN : prog N) {I0 : Mem} (hM : Mde I0 (tk N)) {Q : Post} (hQ : ∀ J, MAna J N → FrO I0 J → Q (some (.inl 1)) J) :
    ∀ (d i : Nat) (I : Mem), i + d = (tk N).length → (∀ id, id ≠ 79 → I id = I0 id) → (∀ j, 60 ≤ j → I 79 j = I0 79 j) → (∀ j, j < i → I 79 j = (tk N).getD j 0) → R 149 184 [(0, .inr (some 77)), (4, .inl (i : Int))] [] I Q := by
  have hx := hN.2.2.2
  intro d
  induction d with
  | zero =>
    intro i I hi hF h6 hD
    have hi : i = (tk N).length := by omega
    subst hi
    have e34 : I 77 34 = ((tk N).length : Int) := by rw [hF 77 (by decide)]; exact hM.1
    refine t149_184 I _ ⟨fun _ => ⟨inb_nat (i := 60) (by omega), ?_⟩, fun z => absurd (by rw [e34]; omega) z⟩
    dsimp only
    rw [e34]
    refine R_lays hN ?_ (fun j hj => ?_) (fun I' hA hF1 hF2 => ⟨rfl, Or.inr rfl, hQ I' hA ⟨fun id a b c => ?_, fun k a b c => ?_, fun j hj => ?_⟩⟩)
    · show upd2 I 79 60 _ 79 60 = _
      rw [upd2_at, if_pos ⟨rfl, rfl⟩]
    · show upd2 I 79 60 _ 79 j = _
      rw [upd2_at, if_neg (by omega)]
      exact hD j hj
    · rw [hF1 id a (by omega), upd2_id b, hF id b]
    · rw [hF2 k a, upd2_id (by decide), hF 77 (by decide)]
    · rw [hF1 79 (by decide) (by omega)]
      show upd2 I 79 60 _ 79 j = _
      rw [upd2_at, if_neg (by omega)]
      exact h6 j (by omega)
  | succ d ih =>
    intro i I hi hF h6 hD
    have e34 : I 77 34 = ((tk N).length : Int) := by rw [hF 77 (by decide)]; exact hM.1
    refine t149_184 I _ ⟨fun z => absurd z (by rw [e34]; omega), fun _ => ⟨inb_nat (by omega), inb_nat (by omega), ?_⟩⟩
    dsimp only
    rw [toNat_c, wrap_succ (by omega)]
    refine ih (i + 1) _ (by omega) (fun id a => by rw [upd2_id a]; exact hF id a) (fun j hj => by rw [upd2_at, if_neg (by omega)]; exact h6 j hj) (fun j hj => ?_)
    rw [upd2_at]
    by_cases hji : j = i
    · subst hji
      rw [if_pos ⟨rfl, rfl⟩, hF 100 (by decide)]
      exact hM.2 j (by omega)
    · rw [if_neg (fun q => hji q.2)]
      exact hD j (by omega)
theorem R_shrinkOnce {H : List Hd} (hH : prog H) {I : Mem} (hA : MAna I H) {Q : Post} (h1 : ¬ fsh H < H.length → ∀ J, FrH I J → Q (some (.inl 0)) J) (h2 : fsh H < H.length → ∀ J, MAna J (newH H (fsh H)) → FrO I J → Q (some (.inl 1)) J) :
    R 149 0 [(0, .inr (some 77))] [] I Q := by
  have hw := prog_wfa hH
  have h60 := prog_60 hH
  have hx := hH.2.2.2
  refine t149_0 I (R_firstShrunk hH hA (fun c J hJ => ⟨_, rfl, fun z => absurd rfl z, fun _ => ⟨Or.inl rfl, h1 c J hJ⟩⟩) (fun c I1 f1 e32 => ⟨_, rfl, fun _ => ?_, fun z => absurd (by omega) z⟩))
  have hr := fsh_rule c
  have h2 := h2 c
  generalize fsh H = p at c hr h2 e32 ⊢
  obtain ⟨hN, hnl⟩ := new_prog hH c hr
  have eN : (tk (newH H p)).length = (tk (H.take p)).length + ((tk (newB H p)).length + (tk (H.drop (p + sp H p))).length) := by unfold newH; rw [tk_len_app, tk_len_app]
  have hps := sp_le (H := H) (p := p) (by omega)
  have hA1 : MAna I1 H := hA.fr' (fun id hid => f1.1 id (by omega)) (f1.2 20 (by decide))
  have hpt : 2 ≤ pts (lt H p) := by
    rcases rule_cases hr with ⟨-, z, -⟩ | ⟨-, z, -⟩ | ⟨-, z⟩ | ⟨-, z⟩ | ⟨-, z⟩ | ⟨-, z⟩ | ⟨-, z, -⟩
    · simp [pts, z]
    · rw [z]; decide
    · rw [z]; decide
    · rw [z]; decide
    · rw [z]; decide
    · rw [z]; decide
    · rw [z]; decide
  have hk0 := kp_len hw c (j := 0) (by omega)
  have hk1 := kp_len hw c (j := 1) (by omega)
  have k0 : mkidP (p : Int) 0 ∧ mkid I1 (p : Int) 0 = (kp H p 0 : Int) := hA1.kid hH (j := 0) c (by omega)
  have k1 : mkidP (p : Int) 1 ∧ mkid I1 (p : Int) 1 = (kp H p 1 : Int) := hA1.kid hH (j := 1) c (by omega)
  refine ⟨k0.1, k1.1, ?_⟩
  dsimp only
  rw [k0.2, k1.2]
  generalize hJ : upd2 I1 77 34 0 = J
  have fJ : FrP I1 J := by rw [← hJ]; exact ⟨fun id a _ => upd2_id a, fun k hk => by rw [upd2_at, if_neg (fun q => hk q.2)]⟩
  have bJ : Mde J [] := by rw [← hJ]; exact ⟨by simp [upd2], fun j hj => absurd hj (by simp)⟩
  have AJ := hA1.frP fJ
  refine ⟨inb_nat (by omega), ?_⟩
  rw [toNat_c, (AJ.ends c).1]
  have hpp := pos_le H p
  refine R_putsAll hH AJ (a := 0) (b := pos H p) (by omega) hpp bJ (by simp; omega) (fun I3 b3 f3 => ⟨rfl, ?_⟩)
  have e0 := tk_seg (H := H) (a := 0) (n := p)
  rw [pos_zero, Nat.zero_add, seg_take] at e0
  rw [e0, List.nil_append] at b3
  have A3 := AJ.frP f3
  have g3 := fJ.trans f3
  have o3 : FrO I I3 := f1.frO.trans g3.frO
  rw [show I3 77 32 = (rule H p : Int) by rw [g3.2 32 (by decide)]; exact e32]
  have tail : ∀ (J' : Mem), FrP I3 J' → Mde J' (tk (H.take p) ++ tk (newB H p)) → R 149 164 [(0, .inr (some 77)), (1, .inl (p : Int))] [] J' Q := by
    intro J' f b
    have A' := A3.frP f
    refine t149_164 J' _ ⟨inb_nat (by omega), inb_nat (i := 60) (by omega), ?_⟩
    have e60 : J' 79 (60 : Int).toNat = (pos H H.length : Int) := by rw [pos_len]; exact A'.1.1.2.2.1
    rw [toNat_c, (A'.ends c).2.1, e60]
    refine R_putsTo hH A' (by omega) b ?_ (fun I' b' f' => ⟨rfl, ?_⟩)
    · rw [seg_drop, List.length_append]; omega
    · rw [seg_drop] at b'
      have hM : Mde I' (tk (newH H p)) := by
        unfold newH
        rw [tk_app, tk_app, ← List.append_assoc]
        exact b'
      exact copy_loop hN hM (fun J2 a2 o2 => h2 J2 a2 (o3.trans ((f.trans f').frO.trans o2))) (tk (newH H p)).length 0 I' (by omega) (fun _ _ => rfl) (fun _ _ => rfl) (fun j hj => absurd hj (by omega))
  rcases rule_cases hr with ⟨r, h1, d0, d1, o0, o9⟩ | ⟨r, h1, d0⟩ | ⟨r, h1⟩ | ⟨r, h1⟩ | ⟨r, h1⟩ | ⟨r, h1⟩ | ⟨r, h1, hc⟩
  · have enb : newB H p = [(48 + opv H p, 0, 0)] := by unfold newB; rw [if_pos r]
    refine ⟨fun z => absurd (by rw [r]; rfl) z, fun _ => ?_⟩
    obtain ⟨l1, l2⟩ := A3.let_ hH c
    obtain ⟨m1, m2⟩ := A3.let_ hH hk0
    obtain ⟨n1, n2⟩ := A3.let_ hH hk1
    have q0 := dig_rng d0
    have q1 := dig_rng d1
    rw [l2, m2, n2, wrap_of (x := lt H (kp H p 0) - 48) (by omega) (by omega), wrap_of (x := lt H (kp H p 1) - 48) (by omega) (by omega)]
    have eo : oper (lt H p) (lt H (kp H p 0) - 48) (lt H (kp H p 1) - 48) = opv H p := rfl
    rw [eo, wrap_of (x := 48 + opv H p) (by omega) (by omega)]
    have etk : tk (newB H p) = [48 + opv H p] := by
      rw [enb, tk_cons]
      have := (leaf_pts (Or.inl (dig_of o0 o9))).2.1
      unfold toks
      rw [if_pos this]
      rfl
    have := congrArg List.length etk
    simp only [List.length_singleton] at this
    obtain ⟨r1, r2, r3⟩ := put_Mde (c := 48 + opv H p) b3 (by omega)
    exact ⟨l1, m1, n1, r1, tail _ r3 (by rw [etk]; exact r2)⟩
  · have hpt3 : pts (lt H p) = 3 := by rw [h1]; rfl
    have hk2 := kp_len hw c (j := 2) (by omega)
    have enb : newB H p = if lt H (kp H p 0) = 48 then xp H (kp H p 1) else xp H (kp H p 2) := by unfold newB; rw [if_neg (by omega), if_pos r]
    obtain ⟨m1, m2⟩ := A3.let_ hH hk0
    have k2 : mkidP (p : Int) 2 ∧ mkid I3 (p : Int) 2 = (kp H p 2 : Int) := A3.kid hH (j := 2) c (by omega)
    have q0 := dig_rng d0
    refine ⟨fun _ => ⟨fun z => absurd (by rw [r]; rfl) z, fun _ => ⟨m1, ?_⟩⟩, fun z => absurd (by rw [r]; decide) z⟩
    rw [m2, wrap_of (x := lt H (kp H p 0) - 48) (by omega) (by omega), k2.2]
    refine ⟨fun z => ⟨k2.1, ?_⟩, fun z => ?_⟩
    · rw [if_neg (by omega)] at enb
      rw [enb] at tail eN
      exact R_putsPart hH A3 hk2 b3 (by omega) (fun I4 b4 f4 => ⟨rfl, tail I4 f4 b4⟩)
    · rw [if_pos (by omega)] at enb
      rw [enb] at tail eN
      exact R_putsPart hH A3 hk1 b3 (by omega) (fun I4 b4 f4 => ⟨rfl, tail I4 f4 b4⟩)
  · have enb : newB H p = xp H (kp H p 1) := by unfold newB; rw [if_neg (by omega), if_neg (by omega), if_neg (by omega), if_neg (by omega)]
    rw [enb] at tail eN
    refine ⟨fun _ => ⟨fun _ => ⟨fun z => absurd z (by rw [r]; decide), fun _ => ⟨fun _ => ⟨fun _ => ?_, fun z => absurd (by rw [r]; decide) z⟩, fun z => absurd (by rw [r]; decide) z⟩⟩, fun z => absurd (by rw [r]; decide) z⟩, fun z => absurd (by rw [r]; decide) z⟩
    exact R_putsPart hH A3 hk1 b3 (by omega) (fun I4 b4 f4 => ⟨rfl, tail I4 f4 b4⟩)
  · have enb : newB H p = sub (nm H p) (xp H (kp H p 0)) (xp H (kp H p 1)) := by unfold newB; rw [if_neg (by omega), if_neg (by omega), if_pos (by omega)]
    rw [enb] at tail eN
    have hs1 := sp_le (H := H) (p := kp H p 1) (by omega)
    have g1 : p < kp H p 1 := kp_gt
    have et := tsub_tk (X := xp H (kp H p 0)) (bind_val hH.1 c h1) (xp H (kp H p 1)) (fun h hm => by
      obtain ⟨q, q1, q2, rfl⟩ := mem_seg hs1 hm
      exact bind_uniq hH c (by omega) h1 (by omega))
    rw [← et] at tail eN
    obtain ⟨e1, e2⟩ := A3.fun_ hH c (hds_kind.1.mpr (Or.inr (Or.inl h1)))
    refine ⟨fun _ => ⟨fun _ => ⟨fun _ => ⟨e1, ?_⟩, fun z => absurd (by rw [r]; rfl) z⟩, fun z => absurd (by rw [r]; decide) z⟩, fun z => absurd (by rw [r]; decide) z⟩
    rw [e2]
    exact R_putsWith hH A3 hk1 hk0 b3 (by omega) (fun I4 b4 f4 => ⟨rfl, tail I4 f4 b4⟩)
  · have enb : newB H p = sub (nm H p) (xp H (kp H p 0)) (xp H (kp H p 1)) := by unfold newB; rw [if_neg (by omega), if_neg (by omega), if_pos (by omega)]
    rw [enb] at tail eN
    have hs1 := sp_le (H := H) (p := kp H p 1) (by omega)
    have g1 : p < kp H p 1 := kp_gt
    have et := tsub_tk (X := xp H (kp H p 0)) (bind_val hH.1 c h1) (xp H (kp H p 1)) (fun h hm => by
      obtain ⟨q, q1, q2, rfl⟩ := mem_seg hs1 hm
      exact bind_uniq hH c (by omega) h1 (by omega))
    rw [← et] at tail eN
    obtain ⟨e1, e2⟩ := A3.fun_ hH c (hds_kind.1.mpr (Or.inr (Or.inl h1)))
    refine ⟨fun _ => ⟨fun _ => ⟨fun z => absurd z (by rw [r]; decide), fun _ => ⟨fun z => absurd (by rw [r]; rfl) z, fun _ => ⟨e1, ?_⟩⟩⟩, fun z => absurd (by rw [r]; decide) z⟩, fun z => absurd (by rw [r]; decide) z⟩
    rw [e2]
    exact R_putsWith hH A3 hk1 hk0 b3 (by omega) (fun I4 b4 f4 => ⟨rfl, tail I4 f4 b4⟩)
  · have enb : newB H p = xp H (kp H p 1) := by unfold newB; rw [if_neg (by omega), if_neg (by omega), if_neg (by omega), if_neg (by omega)]
    rw [enb] at tail eN
    refine ⟨fun _ => ⟨fun _ => ⟨fun z => absurd z (by rw [r]; decide), fun _ => ⟨fun _ => ⟨fun _ => ?_, fun z => absurd (by rw [r]; decide) z⟩, fun z => absurd (by rw [r]; decide) z⟩⟩, fun z => absurd (by rw [r]; decide) z⟩, fun z => absurd (by rw [r]; decide) z⟩
    exact R_putsPart hH A3 hk1 b3 (by omega) (fun I4 b4 f4 => ⟨rfl, tail I4 f4 b4⟩)
  · have enb : newB H p = seg H (kp H p 1) (cq H p - kp H p 1) ++ ((58, pm H p, 0) :: (xp H (kp H (cq H p) 0) ++ (xp H (kp H p 0) ++ seg H (cq H p + sp H (cq H p)) (kp H p 1 + sp H (kp H p 1) - (cq H p + sp H (cq H p)))))) := by unfold newB; rw [if_neg (by omega), if_neg (by omega), if_neg (by omega), if_pos r]
    refine ⟨fun _ => ⟨fun _ => ⟨fun z => absurd z (by rw [r]; decide), fun _ => ⟨fun _ => ⟨fun z => absurd (by rw [r]; rfl) z, fun _ => ?_⟩, fun z => absurd (by rw [r]; decide) z⟩⟩, fun z => absurd (by rw [r]; decide) z⟩, fun z => absurd (by rw [r]; decide) z⟩
    exact R_putsFolded hH A3 c h1 hc b3 enb (by omega) (fun I4 b4 f4 => ⟨rfl, tail I4 f4 b4⟩)
/-! shrunk as often as asked -/
theorem mshrinks_loop {n : Nat} (hn : n ≤ 60) {Q : Post} : ∀ (d k : Nat) (H : List Hd) (I : Mem), k + d = n → prog H → MAna I H → (∀ I', MAna I' (simp' d H).1 → FrO I I' → Q (some (.inl ((k + (simp' d H).2 : Nat) : Int))) I') →
    R 150 35 [(0, .inr (some 77)), (1, .inl (n : Int)), (2, .inl (k : Int))] [] I Q := by
  intro d
  induction d with
  | zero =>
    intro k H I hk hH hA hQ
    refine t150_35 I _ _ ⟨fun _ => hQ I hA FrO.rfl', fun q => absurd (by omega) q⟩
  | succ d ih =>
    intro k H I hk hH hA hQ
    refine t150_35 I _ _ ⟨fun q => absurd q (by omega), fun _ => R_shrinkOnce hH hA (fun h J f => ⟨_, rfl, fun _ => ?_, fun q => absurd rfl q⟩) (fun h J a f => ⟨_, rfl, fun q => absurd q (by decide), fun _ => ?_⟩)⟩
    · unfold simp' at hQ
      rw [if_neg h] at hQ
      exact hQ J (hA.fr' (fun id hid => f.1 id (by omega)) (f.2 20 (by decide))) f.frO
    · unfold simp' at hQ
      rw [if_pos h] at hQ
      rw [wrap_succ (by omega)]
      refine ih (k + 1) _ J (by omega) (new_prog hH h (fsh_rule h)).1 a (fun I' a' f' => ?_)
      have := hQ I' a' (f.trans f')
      rw [show k + 1 + (simp' d (newH H (fsh H))).2 = k + ((simp' d (newH H (fsh H))).2 + 1) by omega]
      exact this
/-- shrunk as often as possible -/
theorem mshort_loop {x : Int} {Q : Post} : ∀ (d k : Nat) (H : List Hd) (I : Mem), k + d = 60 → (tk H).length ≤ d → prog H → MAna I H → (∀ I', MAna I' (simp' d H).1 → FrO I I' → R 152 65 [(0, .inr (some 77)), (1, .inl x), (2, .inl ((k + (simp' d H).2 : Nat) : Int)), (3, .inl ((simp' d H).1.length : Int)), (4, .inl 0)] [] I' Q) →
    R 152 44 [(0, .inr (some 77)), (1, .inl x), (2, .inl (k : Int))] [] I Q := by
  intro d
  induction d with
  | zero =>
    intro k H I hk hl hH hA hQ
    have h1 := prog_pos hH
    have h2 := len_tk H
    omega
  | succ d ih =>
    intro k H I hk hl hH hA hQ
    refine t152_44 I _ _ (R_shrinkOnce hH hA (fun h J f => ⟨_, rfl, fun _ => ?_, fun q => absurd rfl q⟩) (fun h J a f => ⟨_, rfl, fun q => absurd q (by decide), fun _ => ?_⟩))
    · unfold simp' at hQ
      rw [if_neg h] at hQ
      have a := hA.fr' (J := J) (fun id hid => f.1 id (by omega)) (f.2 20 (by decide))
      have := hQ J a f.frO
      rw [show J 77 20 = (H.length : Int) from a.1.1.2.1]
      exact this
    · unfold simp' at hQ
      rw [if_pos h] at hQ
      rw [wrap_succ (by omega)]
      obtain ⟨n1, n2⟩ := new_prog hH h (fsh_rule h)
      refine ih (k + 1) _ J (by omega) (by omega) n1 a (fun I' a' f' => ?_)
      have := hQ I' a' (f.trans f')
      rw [show k + 1 + (simp' d (newH H (fsh H))).2 = k + ((simp' d (newH H (fsh H))).2 + 1) by omega]
      exact this
