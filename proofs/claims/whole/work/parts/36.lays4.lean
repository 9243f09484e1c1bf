/-! The model's returns, and lays whole. -/
def Fr99 (I0 I : Mem) : Prop := ∀ id, id ≠ 99 → I id = I0 id
/-- what the model has of the tree -/
def MTree (I : Mem) (H : List Hd) : Prop := LMod I H H.length ∧ ∀ r, r < H.length → EMd I H r
theorem hds33 {c : Int} (h : c = 33) : hds c = 2 := by rw [h]; rfl
theorem R_isChanged {H : List Hd} (he : ex kE H) (hw : wfa H) (hx : (tk H).length ≤ 60) {I : Mem} (hM : MTx I H H.length) {b : Nat → Int} (hb : ∀ f, f < 6 → I 99 f = b f) (ht : ∀ p, p < H.length → I 96 p = tl H p ∧ I 95 p = bd H p) (hTR : TailRec H (tl H) (bd H)) {p : Nat} (hp : p < H.length) (hl : lt H p = 33) {Q : Post}
    (h1 : ¬ chg H b p → Q (some (.inl 0)) I) (h2 : ∀ I', chg H b p → Fr99 I I' → (∀ f, f < 6 → I' 99 f = stepR H b p f) → Q (some (.inl 1)) I') :
    R 132 0 [(0, .inr (some 77)), (1, .inl (p : Int))] [] I Q := by
  have h60 : H.length ≤ 60 := Nat.le_trans (len_tk H) hx
  have hfr := fun_range (call_fun he hp hl).1
  have hfn : wrap (nm H p - 65) = (fnr H p : Int) := by unfold fnr; rw [wrap_of (by omega) (by omega)]; omega
  have hf6 := fnr_lt he hp hl
  obtain ⟨f1, f2⟩ := hM.fun_ hx (r := p) hp hp (by rw [hds33 hl]; omega)
  have main : ∀ y : Int, y = giv H b p → R 132 50 [(0, .inr (some 77)), (2, .inl (fnr H p : Int))] [.inl y] I Q := by
    intro y hy
    subst hy
    refine t132_50 I _ _ ?_
    rw [toNat_c, hb _ hf6]
    have hin := inb_nat hf6
    refine ⟨fun q1 => ⟨Or.inl rfl, h1 (fun q => q.2 (Or.inl q1))⟩, fun q1 => ⟨hin, fun q2 => ⟨Or.inl rfl, h1 (fun q => q.2 (Or.inr (Or.inl q2)))⟩, fun q2 => ⟨hin, fun q3 => ⟨hin, ?_⟩, fun q3 => ⟨Or.inl rfl, h1 (fun q => q.2 (Or.inr (Or.inr (by simpa using q3))))⟩⟩⟩⟩
    have hc : chg H b p := ⟨hl, fun q => q.elim q1 (fun q => q.elim q2 q3)⟩
    refine ⟨fun q4 => ⟨hin, ?_⟩, fun q4 => ⟨hin, ?_⟩⟩
    · dsimp only
      refine ⟨Or.inr rfl, h2 _ hc (fun id hid => upd2_id hid) (fun f hf => ?_)⟩
      have hv : (if b (fnr H p) = -11 then giv H b p else -12) = -12 := if_neg q4
      rw [stepR_pos hc, hv]
      unfold newb upd2
      by_cases hff : f = fnr H p
      · simp [hff]
      · simp only [hff, and_false, if_false]
        exact hb f hf
    · dsimp only
      refine ⟨Or.inr rfl, h2 _ hc (fun id hid => upd2_id hid) (fun f hf => ?_)⟩
      have hv : (if b (fnr H p) = -11 then giv H b p else -12) = giv H b p := if_pos (by simpa using q4)
      rw [stepR_pos hc, hv]
      unfold newb upd2
      by_cases hff : f = fnr H p
      · simp [hff]
      · simp only [hff, and_false, if_false]
        exact hb f hf
  refine t132_0 I _ ?_
  rw [f2, hfn, toNat_c, (ht p hp).1, (ht p hp).2]
  have hin := inb_nat (n := 60) (show p < 60 by omega)
  refine ⟨f1, hin, fun q1 => ⟨hin, fun q2 => ⟨hin, ?_⟩, fun q2 => main _ ?_⟩, fun q1 => main _ ?_⟩
  · have hbr := fun_range ((bd_fun he hw hTR p hp).resolve_left q2)
    have e : wrap (bd H p - 65) = ((bd H p - 65).toNat : Int) := by rw [wrap_of (by omega) (by omega)]; omega
    have hlt : (bd H p - 65).toNat < 6 := by omega
    rw [e, toNat_c, hb _ hlt]
    refine ⟨inb_nat hlt, main _ ?_⟩
    unfold giv
    rw [if_neg q1, if_neg q2]
  · unfold giv
    rw [if_neg q1, if_pos (by simpa using q2)]
  · unfold giv
    rw [if_pos (by simpa using q1)]
theorem mpass_loop {H : List Hd} (he : ex kE H) (hw : wfa H) (hx : (tk H).length ≤ 60) (hTR : TailRec H (tl H) (bd H)) {I0 : Mem} (hL : LMod I0 H H.length) (ht : ∀ p, p < H.length → I0 96 p = tl H p ∧ I0 95 p = bd H p) {b : Nat → Int} {Q : Post}
    (hQ : ∀ (I : Mem) (v : Int), Fr99 I0 I → (∀ f, f < 6 → I 99 f = passR H b H.length f) → (v = 0 ∧ ¬ chgN H b H.length ∨ v = 1 ∧ chgN H b H.length) → R 133 24 [(0, .inr (some 77)), (1, .inl v)] [] I Q) :
    ∀ (d p : Nat) (v : Int) (I : Mem), p + d = H.length → Fr99 I0 I → (∀ f, f < 6 → I 99 f = passR H b p f) → (v = 0 ∧ ¬ chgN H b p ∨ v = 1 ∧ chgN H b p) → R 133 32 [(0, .inr (some 77)), (1, .inl v), (2, .inl (p : Int))] [] I Q := by
  have h60 : H.length ≤ 60 := Nat.le_trans (len_tk H) hx
  intro d
  induction d with
  | zero =>
    intro p v I hp hF hb hv
    have hp : p = H.length := by omega
    subst hp
    refine t133_32 I _ _ ?_
    rw [hF 77 (by decide), hL.2.1]
    exact ⟨fun _ => hQ I v hF hb hv, fun h => absurd (Int.le_refl _) h⟩
  | succ d ih =>
    intro p v I hp hF hb hv
    have hp : p < H.length := by omega
    have hM : MTx I H H.length := ⟨by unfold Txt; rw [hF 79 (by decide)]; exact hL.1.1, fun r hr => by rw [hF 89 (by decide)]; exact hL.1.2 r hr⟩
    obtain ⟨l1, l2⟩ := hM.let_ hx hp hp
    refine t133_32 I _ _ ?_
    rw [hF 77 (by decide), hL.2.1, l2, wrap_succ (by omega), b2i_0]
    refine ⟨fun h => absurd h (by omega), fun _ => ⟨l1, fun hl => ?_, fun hl => ?_⟩⟩
    · have hc : ¬ chg H (passR H b p) p := fun q => by rw [q.1] at hl; simp at hl
      refine ih (p + 1) v I (by omega) hF (fun f hf => ?_) ?_
      · unfold passR
        rw [stepR_neg hc]
        exact hb f hf
      · rcases hv with ⟨e, hn⟩ | ⟨e, hn⟩
        · exact Or.inl ⟨e, fun q => q.elim hn hc⟩
        · exact Or.inr ⟨e, Or.inl hn⟩
    · refine R_isChanged he hw hx hM hb (fun q hq => by rw [hF 96 (by decide), hF 95 (by decide)]; exact ht q hq) hTR hp (by simpa using hl) (fun hc => ⟨0, rfl, ?_⟩) (fun I' hc hF' hb' => ⟨1, rfl, ?_⟩)
      · refine ⟨fun _ => ih (p + 1) v I (by omega) hF (fun f hf => ?_) ?_, fun q => absurd rfl q⟩
        · unfold passR
          rw [stepR_neg hc]
          exact hb f hf
        · rcases hv with ⟨e, hn⟩ | ⟨e, hn⟩
          · exact Or.inl ⟨e, fun q => q.elim hn hc⟩
          · exact Or.inr ⟨e, Or.inl hn⟩
      · exact ⟨fun q => absurd q (by decide), fun _ => ih (p + 1) 1 I' (by omega) (fun id hid => (hF' id hid).trans (hF id hid)) hb' (Or.inr ⟨rfl, Or.inr hc⟩)⟩
theorem LMod.fr99 {I J : Mem} {H : List Hd} {p : Nat} (h : LMod I H p) (e : Fr99 I J) : LMod J H p := by
  obtain ⟨h1, h2, h3, h4, h5, h6, h7⟩ := h
  unfold LMod MTx Txt PMod at *
  rw [e 77 (by decide), e 79 (by decide), e 89 (by decide), e 92 (by decide), e 93 (by decide), e 94 (by decide), e 95 (by decide), e 96 (by decide)]
  exact ⟨h1, h2, h3, h4, h5, h6, h7⟩
theorem mpasses_loop {H : List Hd} (he : ex kE H) (hw : wfa H) (hx : (tk H).length ≤ 60) (hTR : TailRec H (tl H) (bd H)) {I0 : Mem} (hL : LMod I0 H H.length) (ht : ∀ p, p < H.length → I0 96 p = tl H p ∧ I0 95 p = bd H p) {Q : Post}
    (hQ : ∀ (I : Mem), Fr99 I0 I → (∀ f, f < 6 → I 99 f = rt H f) → Q none I) :
    ∀ (d r : Nat) (I : Mem), r + d = 13 → Fr99 I0 I → (∀ f, f < 6 → I 99 f = itR H r f) → (∀ i, i < r → chgN H (itR H i) H.length) → R 133 24 [(0, .inr (some 77)), (1, .inl 1)] [] I Q := by
  intro d
  induction d with
  | zero =>
    intro r I hr hF hb hc
    exact absurd (it_12 he hc) (by omega)
  | succ d ih =>
    intro r I hr hF hb hc
    have hr12 := it_12 he hc
    refine t133_24 I _ ⟨fun h => absurd h (by decide), fun _ => ?_⟩
    refine mpass_loop he hw hx hTR (hL.fr99 hF) (fun p hp => by rw [hF 96 (by decide), hF 95 (by decide)]; exact ht p hp) (b := itR H r) (fun I' v hF' hb' hv => ?_) H.length 0 0 I (by omega) (fun _ _ => rfl) hb (Or.inl ⟨rfl, fun h => h⟩)
    have hF2 : Fr99 I0 I' := fun id hid => (hF' id hid).trans (hF id hid)
    rcases hv with ⟨rfl, hn⟩ | ⟨rfl, hn⟩
    · have e : passR H (itR H r) H.length = itR H r := (pass_rank he _ (Nat.le_refl _)).1 hn
      exact t133_24 I' _ ⟨fun _ => hQ I' hF2 (fun f hf => by rw [hb' f hf, e, it_rt he (by omega) hn]), fun q => absurd rfl q⟩
    · refine ih (r + 1) I' (by omega) hF2 hb' (fun i hi => ?_)
      rcases Nat.lt_or_ge i r with h | h
      · exact hc i h
      · have : i = r := by omega
        subst this
        exact hn
theorem minit_loop {Q : Post} {I0 : Mem} (hQ : ∀ (I : Mem), Fr99 I0 I → (∀ f, f < 6 → I 99 f = -11) → R 133 24 [(0, .inr (some 77)), (1, .inl 1)] [] I Q) :
    ∀ (d f : Nat) (I : Mem), f + d = 6 → Fr99 I0 I → (∀ g, g < f → I 99 g = -11) → R 133 2 [(0, .inr (some 77)), (1, .inl (f : Int))] [] I Q := by
  intro d
  induction d with
  | zero =>
    intro f I hf hF hD
    have hf : f = 6 := by omega
    subst hf
    exact t133_2 I _ ⟨fun _ => hQ I hF hD, fun h => absurd (by omega) h⟩
  | succ d ih =>
    intro f I hf hF hD
    refine t133_2 I _ ⟨fun h => absurd h (by omega), fun _ => ⟨inb_nat (by omega), ?_⟩⟩
    dsimp only
    rw [toNat_c, wrap_succ (by omega)]
    refine ih (f + 1) _ (by omega) (fun id h => (upd2_id h).trans (hF id h)) (fun g hg => ?_)
    rw [upd2_at]
    by_cases hgf : g = f
    · simp [hgf]
    · simp [hgf]
      exact hD g (by omega)
/-- the model's tree and flow -/
def MFlow (I : Mem) (H : List Hd) : Prop := (∀ p, p < H.length → I 96 p = tl H p ∧ I 95 p = bd H p) ∧ (∀ f, f < 6 → I 99 f = rt H f) ∧ TailRec H (tl H) (bd H)
def MAna (I : Mem) (H : List Hd) : Prop := MTree I H ∧ MFlow I H
theorem R_lays {H : List Hd} (hH : prog H) {I : Mem} (h60 : I 79 60 = ((tk H).length : Int)) (hT : Txt I 79 (tk H)) {Q : Post} (hQ : ∀ (I' : Mem), MAna I' H → FrL I I' → Fr77 I I' → Q none I') : R 127 0 [(0, .inr (some 77))] [] I Q := by
  have hw := prog_wfa hH
  have hx := hH.2.2.2
  have hpos := prog_pos hH
  refine t127_0 I ?_
  dsimp only
  have hF0 : FrL I (upd2 I 77 20 0) := fun id h1 _ => upd2_id h1
  have hF7 : Fr77 I (upd2 I 77 20 0) := fun k hk => by rw [upd2_at, if_neg (fun q => hk q.2)]
  have hL0 : LMod (upd2 I 77 20 0) H 0 := by
    refine ⟨⟨?_, fun r hr => absurd hr (by omega)⟩, by rw [upd2_at, if_pos ⟨rfl, rfl⟩]; rfl, by rw [upd2_id (by decide)]; exact h60, ⟨fun h => absurd h (by omega), fun a j _ _ hk => absurd hk (by omega)⟩, fun r hr => absurd hr (by omega), fun r hr => absurd hr (by omega), ⟨fun h => absurd h (by omega), fun a j _ _ hk => absurd hk (by omega)⟩⟩
    unfold Txt
    rw [upd2_id (by decide)]
    exact hT
  have hmain := lays_loop hw hx (Q := Q) (I0 := I) (fun I1 hL1 hF1 hF71 hE1 => ?_) H.length 0 0 (upd2 I 77 20 0) (fun _ => 0) (fun _ => 0) (by omega) hL0 hF0 hF7 ⟨fun d hd => absurd hd (by omega), fun d hd => absurd hd (by omega), fun h => absurd h (by omega)⟩ (fun r hr => absurd hr (by omega)) (fun _ => rfl) (fun h => absurd h (by omega))
  · rw [pos_zero] at hmain
    exact hmain
  · have hTR0 : TailRec H (I1 96) (I1 95) := by
      obtain ⟨-, -, -, -, -, -, m8⟩ := hL1
      exact ⟨(m8.1 hpos).1, (m8.1 hpos).2, fun a j ha hj => m8.2 a j ha hj (kp_len hw ha hj)⟩
    have hTR := TB_rec hTR0
    refine t133_0 I1 (minit_loop (I0 := I1) (fun I2 hF2 hD2 => ?_) 6 0 I1 (by omega) (fun _ _ => rfl) (fun g hg => absurd hg (by omega)))
    refine mpasses_loop hH.1 hw hx hTR hL1 (TB_eq hw hTR0) (fun I3 hF3 hb3 => ⟨rfl, ?_⟩) 13 0 I2 (by omega) hF2 hD2 (fun i hi => absurd hi (by omega))
    refine hQ I3 ⟨⟨hL1.fr99 hF3, fun r hr => ?_⟩, fun p hp => ?_, hb3, hTR⟩ (fun id h1 h2 => by rw [hF3 id (by omega)]; exact hF1 id h1 h2) (fun k hk => by rw [hF3 77 (by decide)]; exact hF71 k hk)
    · unfold EMd
      rw [hF3 90 (by decide), hF3 91 (by decide)]
      exact hE1 r hr
    · rw [hF3 96 (by decide), hF3 95 (by decide)]
      exact TB_eq hw hTR0 p hp
