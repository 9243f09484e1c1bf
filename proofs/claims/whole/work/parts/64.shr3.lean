/-! Shrinker: apply and simplify, whole. -/
theorem rule_cases {H : List Hd} {p : Nat} (hr : rule H p ≠ 0) : (rule H p = 1 ∧ isOpr (lt H p) = true ∧ isDig (lt H (kp H p 0)) = true ∧ isDig (lt H (kp H p 1)) = true ∧ 0 ≤ opv H p ∧ opv H p ≤ 9) ∨ (rule H p = 2 ∧ lt H p = 63 ∧ isDig (lt H (kp H p 0)) = true) ∨
    (rule H p = 3 ∧ lt H p = 58) ∨ (rule H p = 4 ∧ lt H p = 58) ∨ (rule H p = 5 ∧ lt H p = 58) ∨ (rule H p = 6 ∧ lt H p = 64) ∨ (rule H p = 7 ∧ lt H p = 64 ∧ cS H p = 1) := by
  unfold rule at hr ⊢
  split at hr
  next h1 =>
    rw [if_pos h1]
    split at hr
    next h2 => rw [if_pos h2]; exact Or.inl ⟨rfl, h1, h2⟩
    next => exact absurd rfl hr
  next h1 =>
  rw [if_neg h1]
  split at hr
  next h1 =>
    rw [if_pos h1]
    split at hr
    next h2 => rw [if_pos h2]; exact Or.inr (Or.inl ⟨rfl, h1, h2⟩)
    next => exact absurd rfl hr
  next h1 =>
  rw [if_neg h1]
  split at hr
  next h1 =>
    rw [if_pos h1]
    split at hr
    next h2 => rw [if_pos h2]; exact Or.inr (Or.inr (Or.inl ⟨rfl, h1⟩))
    next h2 =>
    rw [if_neg h2]
    split at hr
    next h2 => rw [if_pos h2]; exact Or.inr (Or.inr (Or.inr (Or.inl ⟨rfl, h1⟩)))
    next h2 =>
    rw [if_neg h2]
    split at hr
    next h2 => rw [if_pos h2]; exact Or.inr (Or.inr (Or.inr (Or.inr (Or.inl ⟨rfl, h1⟩))))
    next => exact absurd rfl hr
  next h1 =>
  rw [if_neg h1]
  split at hr
  next h1 =>
    rw [if_pos h1]
    split at hr
    next h2 => rw [if_pos h2]; exact Or.inr (Or.inr (Or.inr (Or.inr (Or.inr (Or.inl ⟨rfl, h1⟩)))))
    next h2 =>
    rw [if_neg h2]
    split at hr
    next h2 => rw [if_pos h2]; exact Or.inr (Or.inr (Or.inr (Or.inr (Or.inr (Or.inr ⟨rfl, h1, h2.1⟩)))))
    next => exact absurd rfl hr
  next => exact absurd rfl hr
theorem seg_take {H : List Hd} {p : Nat} : seg H 0 p = H.take p := by unfold seg; simp
theorem seg_drop {H : List Hd} {a : Nat} : seg H a (H.length - a) = H.drop a := by unfold seg; rw [← List.length_drop, List.take_length]
theorem R_apply {H : List Hd} (hH : prog H) {I : Mem} (hS : SOK I H) {p : Nat} (hp : p < H.length) (hr : rule H p ≠ 0) (h3 : I 37 3 = (p : Int)) (h4 : I 37 4 = (rule H p : Int)) {Q : Post} (hQ : ∀ I', Blt I' (tk (newH H p)) → FrB I I' → Q none I') :
    R 58 0 [(0, .inr (some 37))] [] I Q := by
  have hw := prog_wfa hH
  have h60 := prog_60 hH
  have hx := hH.2.2.2
  have hnl := (new_prog hH hp hr).2
  have eN : (tk (newH H p)).length = (tk (H.take p)).length + ((tk (newB H p)).length + (tk (H.drop (p + sp H p))).length) := by unfold newH; rw [tk_len_app, tk_len_app]
  have hps := sp_le (H := H) (p := p) (by omega)
  refine t58_0 I ?_
  dsimp only
  generalize hJ : upd2 I 37 6 0 = J
  have fJ : FrB I J := by rw [← hJ]; exact ⟨fun id a _ => upd2_id a, fun k hk => by rw [upd2_at, if_neg (fun q => hk q.2)]⟩
  have bJ : Blt J [] := by rw [← hJ]; exact ⟨by simp [upd2], fun j hj => absurd hj (by simp)⟩
  have SJ := hS.frB fJ
  rw [fJ.2 3 (by decide), h3, (SJ.row hH hp).2.2.2.1]
  have hpp := pos_le H p
  refine R_copyRange hH SJ (a := 0) (b := pos H p) (by omega) hpp bJ (by simp; omega) (fun I2 b2 f2 => ⟨rfl, ?_⟩)
  have e0 := tk_seg (H := H) (a := 0) (n := p)
  rw [pos_zero, Nat.zero_add, seg_take] at e0
  rw [e0, List.nil_append] at b2
  have S2 := SJ.frB f2
  have g2 := fJ.trans f2
  have p2 : I2 37 3 = (p : Int) := by rw [g2.2 3 (by decide)]; exact h3
  rw [show I2 37 4 = (rule H p : Int) by rw [g2.2 4 (by decide)]; exact h4]
  rw [p2]
  -- the end
  have tail : ∀ (J' : Mem), FrB I J' → Blt J' (tk (H.take p) ++ tk (newB H p)) → R 58 119 [(0, .inr (some 37))] [] J' Q := by
    intro J' f b
    have S' := hS.frB f
    refine t58_119 J' ?_
    rw [f.2 3 (by decide), h3, (S'.row hH hp).2.2.2.2.1, f.2 1 (by decide), hS.1, ← pos_len]
    refine R_copyTo hH S' (by omega) b ?_ (fun I' b' f' => ⟨rfl, hQ I' ?_ (f.trans f')⟩)
    · rw [seg_drop, List.length_append]; omega
    · rw [seg_drop] at b'
      unfold newH
      rw [tk_app, tk_app, ← List.append_assoc]
      exact b'
  rcases rule_cases hr with ⟨r, h1, d0, d1, o0, o9⟩ | ⟨r, h1, d0⟩ | ⟨r, h1⟩ | ⟨r, h1⟩ | ⟨r, h1⟩ | ⟨r, h1⟩ | ⟨r, h1, hc⟩
  · have hpt : pts (lt H p) = 2 := by simp [pts, h1]
    have hk0 := kp_len hw hp (j := 0) (by omega)
    have hk1 := kp_len hw hp (j := 1) (by omega)
    have enb : newB H p = [(48 + opv H p, 0, 0)] := by unfold newB; rw [if_pos r]
    refine ⟨fun _ => t60_0 I2 ?_, fun z => absurd (by rw [r]; rfl) z⟩
    have q0 := dig_rng d0
    have q1 := dig_rng d1
    rw [p2, SOK.k1 hH S2 hp (by omega), SOK.k0 hH hp, (S2.row hH hp).1, (S2.row hH hk0).1, (S2.row hH hk1).1, wrap_of (x := lt H (kp H p 0) - 48) (by omega) (by omega), wrap_of (x := lt H (kp H p 1) - 48) (by omega) (by omega)]
    have eo : oper (lt H p) (lt H (kp H p 0) - 48) (lt H (kp H p 1) - 48) = opv H p := rfl
    rw [eo, wrap_of (x := 48 + opv H p) (by omega) (by omega)]
    have etk : tk (newB H p) = [48 + opv H p] := by
      rw [enb, tk_cons]
      have := (leaf_pts (Or.inl (dig_of o0 o9))).2.1
      unfold toks
      rw [if_pos this]
      rfl
    have := congrArg List.length etk
    simp only [List.length_singleton] at this
    exact R_copySign b2 (by omega) (fun I3 b3 f3 => ⟨rfl, rfl, tail I3 (g2.trans f3) (by rw [etk]; exact b3)⟩)
  · have hpt : pts (lt H p) = 3 := by rw [h1]; rfl
    have hk0 := kp_len hw hp (j := 0) (by omega)
    have hk1 := kp_len hw hp (j := 1) (by omega)
    have hk2 := kp_len hw hp (j := 2) (by omega)
    have enb : newB H p = if lt H (kp H p 0) = 48 then xp H (kp H p 1) else xp H (kp H p 2) := by unfold newB; rw [if_neg (by omega), if_pos r]
    refine ⟨fun z => absurd z (by omega), fun _ => ⟨fun _ => t59_0 I2 ?_, fun z => absurd (by rw [r]; rfl) z⟩⟩
    rw [p2, SOK.k1 hH S2 hp (by omega), SOK.k0 hH hp, (S2.row hH hk0).1, SOK.k2 hH S2 hp (by omega)]
    refine ⟨fun c => ⟨fun _ => ?_, fun z => absurd rfl z⟩, fun c => ⟨fun z => absurd z (by decide), fun _ => ?_⟩⟩
    · rw [if_neg c] at enb
      rw [enb] at tail eN
      exact ⟨_, rfl, R_copyX hH S2 hk2 b2 (by omega) (fun I3 b3 f3 => ⟨rfl, tail I3 (g2.trans f3) b3⟩)⟩
    · rw [if_pos (by simpa using c)] at enb
      rw [enb] at tail eN
      exact ⟨_, rfl, R_copyX hH S2 hk1 b2 (by omega) (fun I3 b3 f3 => ⟨rfl, tail I3 (g2.trans f3) b3⟩)⟩
  · have hpt : pts (lt H p) = 2 := by rw [h1]; rfl
    have hk1 := kp_len hw hp (j := 1) (by omega)
    have enb : newB H p = xp H (kp H p 1) := by unfold newB; rw [if_neg (by omega), if_neg (by omega), if_neg (by omega), if_neg (by omega)]
    rw [enb] at tail eN
    refine ⟨fun z => absurd z (by omega), fun _ => ⟨fun z => absurd z (by omega), fun _ => ⟨fun _ => ?_, fun z => absurd (by rw [r]; rfl) z⟩⟩⟩
    rw [SOK.k1 hH S2 hp (by omega)]
    exact R_copyX hH S2 hk1 b2 (by omega) (fun I3 b3 f3 => ⟨rfl, tail I3 (g2.trans f3) b3⟩)
  · have enb : newB H p = sub (nm H p) (xp H (kp H p 0)) (xp H (kp H p 1)) := by unfold newB; rw [if_neg (by omega), if_neg (by omega), if_pos (by omega)]
    rw [enb] at tail eN
    refine ⟨fun z => absurd z (by omega), fun _ => ⟨fun z => absurd z (by omega), fun _ => ⟨fun z => absurd z (by omega), fun _ => ⟨fun _ => ?_, fun z => absurd (by rw [r]; rfl) z⟩⟩⟩⟩
    exact R_copyReplaced hH S2 hp h1 p2 b2 (by omega) (fun I3 b3 f3 => ⟨rfl, tail I3 (g2.trans f3) b3⟩)
  · have enb : newB H p = sub (nm H p) (xp H (kp H p 0)) (xp H (kp H p 1)) := by unfold newB; rw [if_neg (by omega), if_neg (by omega), if_pos (by omega)]
    rw [enb] at tail eN
    refine ⟨fun z => absurd z (by omega), fun _ => ⟨fun z => absurd z (by omega), fun _ => ⟨fun z => absurd z (by omega), fun _ => ⟨fun z => absurd z (by omega), fun _ => ⟨fun _ => ?_, fun z => absurd (by rw [r]; rfl) z⟩⟩⟩⟩⟩
    exact R_copyReplaced hH S2 hp h1 p2 b2 (by omega) (fun I3 b3 f3 => ⟨rfl, tail I3 (g2.trans f3) b3⟩)
  · have hpt : pts (lt H p) = 2 := by rw [h1]; rfl
    have hk1 := kp_len hw hp (j := 1) (by omega)
    have enb : newB H p = xp H (kp H p 1) := by unfold newB; rw [if_neg (by omega), if_neg (by omega), if_neg (by omega), if_neg (by omega)]
    rw [enb] at tail eN
    refine ⟨fun z => absurd z (by omega), fun _ => ⟨fun z => absurd z (by omega), fun _ => ⟨fun z => absurd z (by omega), fun _ => ⟨fun z => absurd z (by omega), fun _ => ⟨fun z => absurd z (by omega), fun _ => ⟨fun _ => ?_, fun z => absurd (by rw [r]; rfl) z⟩⟩⟩⟩⟩⟩
    rw [SOK.k1 hH S2 hp (by omega)]
    exact R_copyX hH S2 hk1 b2 (by omega) (fun I3 b3 f3 => ⟨rfl, tail I3 (g2.trans f3) b3⟩)
  · have enb : newB H p = seg H (kp H p 1) (cq H p - kp H p 1) ++ ((58, pm H p, 0) :: (xp H (kp H (cq H p) 0) ++ (xp H (kp H p 0) ++ seg H (cq H p + sp H (cq H p)) (kp H p 1 + sp H (kp H p 1) - (cq H p + sp H (cq H p)))))) := by unfold newB; rw [if_neg (by omega), if_neg (by omega), if_neg (by omega), if_pos r]
    refine ⟨fun z => absurd z (by omega), fun _ => ⟨fun z => absurd z (by omega), fun _ => ⟨fun z => absurd z (by omega), fun _ => ⟨fun z => absurd z (by omega), fun _ => ⟨fun z => absurd z (by omega), fun _ => ⟨fun z => absurd z (by omega), fun _ => ⟨fun _ => ?_, fun z => absurd (by rw [r]; rfl) z⟩⟩⟩⟩⟩⟩⟩
    exact R_copyInlined hH S2 hp h1 p2 hc b2 enb (by omega) (fun I3 b3 f3 => ⟨rfl, tail I3 (g2.trans f3) b3⟩)
/-- simplified at most n times -/
def simp' : Nat → List Hd → List Hd × Nat
  | 0, H => (H, 0)
  | n + 1, H => if fsh H < H.length then ((simp' n (newH H (fsh H))).1, (simp' n (newH H (fsh H))).2 + 1) else (H, 0)
theorem simp_prog : ∀ (n : Nat) {H : List Hd}, prog H → prog (simp' n H).1 ∧ (simp' n H).2 ≤ n := by
  intro n
  induction n with
  | zero => intro H hH; exact ⟨hH, Nat.le_refl _⟩
  | succ n ih =>
    intro H hH
    unfold simp'
    split
    next h =>
      have := ih (new_prog hH h (fsh_rule h)).1
      exact ⟨this.1, by show _ + 1 ≤ n + 1; omega⟩
    next => exact ⟨hH, Nat.zero_le _⟩
theorem simplify_loop {n : Nat} (hn : n ≤ 60) {Q : Post} : ∀ (d k : Nat) (H : List Hd) (I : Mem), k + d = n → prog H → SOK I H → (∀ I', SOK I' (simp' d H).1 → FrSh I I' → Q (some (.inl ((k + (simp' d H).2 : Nat) : Int))) I') →
    R 52 4 [(0, .inr (some 37)), (1, .inl (n : Int)), (2, .inl (k : Int)), (3, .inl (k : Int))] [] I Q := by
  intro d
  induction d with
  | zero =>
    intro k H I hk hH hS hQ
    refine t52_4 I _ _ _ ⟨fun _ => hQ I hS (fun _ _ => rfl), fun q => absurd (by omega) q⟩
  | succ d ih =>
    intro k H I hk hH hS hQ
    refine t52_4 I _ _ _ ⟨fun q => absurd q (by omega), fun _ => R_find' hH hS (fun h => ⟨_, rfl, fun _ => ?_, fun q => absurd rfl q⟩) (fun h => ⟨_, rfl, fun q => absurd q (by decide), fun _ => ?_⟩)⟩
    · unfold simp' at hQ
      rw [if_neg h] at hQ
      exact hQ I hS (fun _ _ => rfl)
    · unfold simp' at hQ
      rw [if_pos h] at hQ
      generalize hJ : upd2 (upd2 I 37 3 (fsh H : Int)) 37 4 (rule H (fsh H) : Int) = J
      have ej : ∀ id, id ≠ 37 → J id = I id := fun id a => by rw [← hJ, upd2_id a, upd2_id a]
      have e37 : ∀ k, k ≠ 3 → k ≠ 4 → J 37 k = I 37 k := fun k a b => by rw [← hJ, upd2_at, if_neg (fun q => b q.2), upd2_at, if_neg (fun q => a q.2)]
      have S' : SOK J H := ⟨by rw [e37 1 (by decide) (by decide)]; exact hS.1, fun j hj => by rw [ej 38 (by decide)]; exact hS.2.1 j hj, hS.2.2.fr (fun k _ => ej (40 + k) (by omega))⟩
      have hN := (new_prog hH h (fsh_rule h)).1
      refine R_apply hH S' h (fsh_rule h) (by rw [← hJ]; simp [upd2]) (by rw [← hJ]; simp [upd2]) (fun I2 b2 f2 => ⟨rfl, ?_⟩)
      rw [b2.1]
      refine R_load hN (Or.inr rfl) b2.2 (fun I3 S3 f3 => ⟨rfl, ?_⟩)
      rw [wrap_succ (by omega)]
      refine ih (k + 1) _ I3 (by omega) hN S3 (fun I' S4 f4 => ?_)
      have := hQ I' S4 (fun id hid => by rw [f4 id hid, f3 id hid, f2.1 id (by omega) (by omega), ej id (by omega)])
      rw [show k + 1 + (simp' d (newH H (fsh H))).2 = k + ((simp' d (newH H (fsh H))).2 + 1) by omega]
      exact this
theorem R_simplify {H : List Hd} (hH : prog H) {n : Nat} (hn : n ≤ 60) {I : Mem} (hS : SOK I H) {Q : Post} (hQ : ∀ I', SOK I' (simp' n H).1 → FrSh I I' → Q (some (.inl ((simp' n H).2 : Int))) I') :
    R 52 0 [(0, .inr (some 37)), (1, .inl (n : Int))] [] I Q := by
  refine t52_0 I _ ?_
  refine simplify_loop hn n 0 H I (by omega) hH hS (fun I' h1 h2 => ?_)
  rw [Nat.zero_add]
  exact hQ I' h1 h2
