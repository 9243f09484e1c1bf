/-! The model's lays: the same tree. -/
theorem idx3 {a j : Nat} (ha : a < 60) (hj : j < 3) : wrap (wrap (3 * (a : Int)) + (j : Int)) = ((3 * a + j : Nat) : Int) := by
  rw [wrap_of (x := 3 * (a : Int)) (by omega) (by omega), wrap_of (by omega) (by omega)]
  omega
theorem toNat_c (n : Nat) : ((n : Nat) : Int).toNat = n := rfl
def lkM (I : Mem) (p a q : Nat) (dv ov tv : Int) : Mem := upd2 (upd2 (upd2 (upd2 (upd2 I 92 p (a : Int)) 93 p dv) 94 q (p : Int)) 95 p ov) 96 p tv
/-- the model's text and starts as far as p -/
def MTx (I : Mem) (H : List Hd) (p : Nat) : Prop := Txt I 79 (tk H) ∧ ∀ r, r < p → I 89 r = (pos H r : Int)
theorem MTx.let_ {I : Mem} {H : List Hd} {p r : Nat} (h : MTx I H p) (hx : (tk H).length ≤ 60) (hr : r < p) (hl : r < H.length) : mletP I (r : Int) ∧ mlet I (r : Int) = lt H r := by
  have e : (r : Int).toNat = r := by omega
  have e2 := h.2 r hr
  have hp := pos_add_lt hl
  have h1 := hds_pos (lt H r)
  have h60 : H.length ≤ 60 := Nat.le_trans (len_tk H) hx
  unfold mletP mlet
  rw [e, e2]
  have e3 : ((pos H r : Nat) : Int).toNat = pos H r := by omega
  rw [e3]
  exact ⟨⟨inb_nat (by omega), inb_nat (by omega)⟩, by rw [h.1 _ (by omega), tk_at0 hl]⟩
theorem MTx.fun_ {I : Mem} {H : List Hd} {p r : Nat} (h : MTx I H p) (hx : (tk H).length ≤ 60) (hr : r < p) (hl : r < H.length) (h2 : 1 < hds (lt H r)) : mfunP I (r : Int) ∧ mfun I (r : Int) = nm H r := by
  have e : (r : Int).toNat = r := by omega
  have e2 := h.2 r hr
  have hp := pos_add_lt hl
  have h60 : H.length ≤ 60 := Nat.le_trans (len_tk H) hx
  unfold mfunP mfun
  rw [e, e2, wrap_succ (by omega)]
  have e3 : ((pos H r + 1 : Nat) : Int).toNat = pos H r + 1 := by omega
  rw [e3]
  exact ⟨⟨inb_nat (by omega), inb_nat (by omega)⟩, by rw [h.1 _ (by omega), tk_at1 hl h2]⟩
theorem hds64 {c : Int} (h : c = 64) : hds c = 3 := by rw [h]; rfl
theorem pts2 {c : Int} (h : c = 58 ∨ c = 64) : pts c = 2 := by rcases h with h | h <;> rw [h] <;> rfl
set_option maxHeartbeats 1000000 in
theorem R_laysKid {H : List Hd} (hx : (tk H).length ≤ 60) {I : Mem} {p a j : Nat} (hM : MTx I H p) (hp : p < H.length) (ha : a < p) (hj : j < pts (lt H a)) (hd : 0 ≤ I 93 a ∧ I 93 a ≤ 60) (ht : isB (I 96 a)) {Q : Post}
    (h : Q none (lkM I p a (3 * a + j) (I 93 a + 1) (if lt H a = 64 ∧ j = 0 then nm H a else I 95 a) (if lt H a = 64 ∧ j = 0 then 1 else if (lt H a = 63 ∨ lt H a = 58 ∨ lt H a = 64) ∧ j ≠ 0 then I 96 a else 0))) :
    R 126 0 [(0, .inr (some 77)), (1, .inl (p : Int)), (2, .inl (a : Int)), (3, .inl (j : Int))] [] I Q := by
  have h60 : H.length ≤ 60 := Nat.le_trans (len_tk H) hx
  have hal : a < H.length := by omega
  obtain ⟨l1, l2⟩ := hM.let_ hx ha hal
  have hp3 := pts_le (lt H a)
  have ea : (a : Int).toNat = a := rfl
  have ep : (p : Int).toNat = p := rfl
  refine t126_0 I _ _ _ ?_
  dsimp only
  rw [l2, ea, ep, idx3 (by omega) (by omega), toNat_c, upd2_id (show 93 ≠ 92 by decide), wrap_of (x := I 93 a + 1) (by omega) (by omega)]
  refine ⟨l1, inb_nat (by omega), inb_nat (by omega), inb_nat (by omega), inb_nat (by omega), ?_⟩
  unfold lkM at h
  generalize hJ : upd2 (upd2 (upd2 I 92 p (a : Int)) 93 p (I 93 a + 1)) 94 (3 * a + j) (p : Int) = J at h
  have jo : ∀ id, id ≠ 92 → id ≠ 93 → id ≠ 94 → J id = I id := fun id h1 h2 h3 => by rw [← hJ, upd2_id h3, upd2_id h2, upd2_id h1]
  -- the last store
  have fin : ∀ (K : Mem) (v : Int), isB v → Q none (upd2 K 96 p v) → R 126 147 [] [.inl v, .inl (p : Int), .inr (some 96)] K Q := by
    intro K v hv hq
    refine t126_147 K _ _ ⟨inb_nat (by omega), hv, ?_⟩
    dsimp only
    rw [ep]
    exact hq
  -- behind the owner
  have mid : ∀ (y ov : Int), (y = 0 ↔ ¬ (lt H a = 64 ∧ j = 0)) → ov = (if lt H a = 64 ∧ j = 0 then nm H a else I 95 a) → R 126 89 [(0, .inr (some 77)), (1, .inl (p : Int)), (2, .inl (a : Int)), (3, .inl (j : Int)), (4, .inl (lt H a)), (5, .inl y)] [.inl ov, .inl (p : Int), .inr (some 95)] J Q := by
    intro y ov hy hov
    refine t126_89 J _ _ _ _ _ _ _ ⟨inb_nat (by omega), ?_⟩
    dsimp only
    rw [ep, ea, upd2_id (show 96 ≠ 95 by omega), jo 96 (by omega) (by omega) (by omega), hov]
    refine ⟨fun y0 => ?_, fun y0 => ?_⟩
    · have hb : lt H a = 64 ∧ j = 0 := Classical.byContradiction (fun q => y0 (hy.mpr q))
      rw [if_pos hb]
      rw [if_pos hb, if_pos hb] at h
      exact fin _ 1 (Or.inr rfl) h
    · have hb : ¬ (lt H a = 64 ∧ j = 0) := hy.mp (by simpa using y0)
      rw [if_neg hb]
      rw [if_neg hb, if_neg hb] at h
      refine ⟨inb_nat (by omega), fun z => ?_, fun z => ?_⟩
      · refine fin _ 0 (Or.inl rfl) ?_
        have e : (if (lt H a = 63 ∨ lt H a = 58 ∨ lt H a = 64) ∧ j ≠ 0 then I 96 a else 0) = 0 := by split; exact z; rfl
        rw [e] at h
        exact h
      · have z1 : I 96 a = 1 := ht.resolve_left z
        rw [z1] at h
        have f0 : ¬ ((lt H a = 63 ∨ lt H a = 58 ∨ lt H a = 64) ∧ j ≠ 0) → R 126 147 [] [.inl 0, .inl (p : Int), .inr (some 96)] (upd2 J 95 p (I 95 a)) Q := by
          intro q
          rw [if_neg q] at h
          exact fin _ 0 (Or.inl rfl) h
        have f1 : ((lt H a = 63 ∨ lt H a = 58 ∨ lt H a = 64) ∧ j ≠ 0) → R 126 147 [] [.inl 1, .inl (p : Int), .inr (some 96)] (upd2 J 95 p (I 95 a)) Q := by
          intro q
          rw [if_pos q] at h
          exact fin _ 1 (Or.inr rfl) h
        refine ⟨fun h63 => ⟨fun h58 => ?_, fun h58 => ⟨fun h64 => ?_, fun h64 => ?_⟩⟩, fun h63 => ?_⟩
        · have := pts2 (Or.inl h58)
          exact ⟨fun q => f0 (by omega), fun q => f1 (by omega)⟩
        · exact f0 (by omega)
        · have := pts2 (c := lt H a) (Or.inr (by simpa using h64))
          exact ⟨fun q => f0 (by omega), fun q => f1 (by omega)⟩
        · exact ⟨fun q => f0 (by omega), fun q => f1 (by omega)⟩
  have own : ∀ y : Int, (y = 0 ↔ ¬ (lt H a = 64 ∧ j = 0)) → R 126 55 [(0, .inr (some 77)), (1, .inl (p : Int)), (2, .inl (a : Int)), (3, .inl (j : Int)), (4, .inl (lt H a))] [.inl y] J Q := by
    intro y hy
    refine t126_55 J _ _ _ _ _ ?_
    rw [ea, jo 95 (by omega) (by omega) (by omega), jo 89 (by omega) (by omega) (by omega), jo 79 (by omega) (by omega) (by omega)]
    refine ⟨fun y0 => ⟨inb_nat (by omega), mid y _ hy (by rw [if_neg (hy.mp y0)])⟩, fun y0 => ?_⟩
    have hb : lt H a = 64 ∧ j = 0 := Classical.byContradiction (fun q => y0 (hy.mpr q))
    obtain ⟨f1, f2⟩ := hM.fun_ hx ha hal (by rw [hds64 hb.1]; omega)
    have f3 := f1.2
    unfold mfun at f2
    rw [ea] at f2 f3
    refine ⟨inb_nat (by omega), f3, mid y _ hy (by rw [if_pos hb, f2])⟩
  refine ⟨fun h64 => own 0 ⟨fun _ q => h64 q.1, fun _ => rfl⟩, fun h64 => ⟨fun q => own 0 ⟨fun _ z => q (by omega), fun _ => rfl⟩, fun q => own 1 ⟨fun z => by omega, fun z => absurd ⟨by simpa using h64, by omega⟩ z⟩⟩⟩
