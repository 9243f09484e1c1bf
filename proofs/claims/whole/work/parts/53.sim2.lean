/-! The model's turn: frames, kids. -/
def RV (v : Int) : Prop := v = -11 ∨ v = -12 ∨ v = -13 ∨ 0 ≤ v
theorem stepR_RV {H : List Hd} {b : Nat → Int} {p : Nat} (h : ∀ f, RV (b f)) : ∀ f, RV (stepR H b p f) := by
  intro f
  by_cases hc : chg H b p
  · rw [stepR_pos hc]
    unfold newb
    split
    · split
      · unfold giv
        split
        · exact Or.inr (Or.inr (Or.inr (by omega)))
        · split
          · exact Or.inr (Or.inr (Or.inl rfl))
          · exact h _
      · exact Or.inr (Or.inl rfl)
    · exact h f
  · rw [stepR_neg hc]
    exact h f
theorem passR_RV {H : List Hd} {b : Nat → Int} (h : ∀ f, RV (b f)) : ∀ n f, RV (passR H b n f) := by
  intro n
  induction n with
  | zero => exact h
  | succ n ih => intro f; unfold passR; exact stepR_RV ih f
theorem itR_RV (H : List Hd) : ∀ n f, RV (itR H n f) := by
  intro n
  induction n with
  | zero => intro f; exact Or.inl rfl
  | succ n ih => intro f; unfold itR; exact passR_RV ih _ f
theorem rt_RV (H : List Hd) (f : Nat) : RV (rt H f) := itR_RV H 13 f
theorem mjmp_rt (H : List Hd) (f : Nat) : mjmp (rt H f) = jmp (rt H f) := by
  rcases rt_RV H f with h | h | h | h
  · rw [h]; rfl
  · rw [h]; rfl
  · rw [h]; rfl
  · unfold mjmp jmp
    have h1 : ¬ rt H f = -11 := by omega
    have h2 : ¬ rt H f = -12 := by omega
    simp [h, h1, h2]
theorem MAna.frM {I J : Mem} {H : List Hd} (h : MAna I H) (e : FrM I J) : MAna J H := by
  have e1 : ∀ id, 78 ≤ id → id ≤ 100 → J id = I id := fun id h1 h2 => e.1 id (by omega) (by omega)
  have e20 : J 77 20 = I 77 20 := e.2 20 (by omega)
  unfold MAna MTree LMod MTx PMod EMd MFlow Txt at h ⊢
  rw [e1 79 (by decide) (by decide), e1 89 (by decide) (by decide), e1 90 (by decide) (by decide), e1 91 (by decide) (by decide), e1 92 (by decide) (by decide), e1 93 (by decide) (by decide), e1 94 (by decide) (by decide), e1 95 (by decide) (by decide), e1 96 (by decide) (by decide), e1 99 (by decide) (by decide), e20]
  exact h
theorem MAna.kid {J : Mem} {H : List Hd} (h : MAna J H) (hH : prog H) {p j : Nat} (hp : p < H.length) (hj : j < pts (lt H p)) : mkidP (p : Int) (j : Int) ∧ mkid J (p : Int) (j : Int) = (kp H p j : Int) := by
  have h60 := prog_60 hH
  have h3 := pts_le (lt H p)
  have hk := kp_len (prog_wfa hH) hp hj
  unfold mkidP mkid
  rw [idx3 (by omega) (by omega), toNat_c]
  exact ⟨inb_nat (by omega), (h.1.1.2.2.2.1.2 p j hp hj hk).2.2⟩
theorem MAna.let_ {J : Mem} {H : List Hd} (h : MAna J H) (hH : prog H) {p : Nat} (hp : p < H.length) : mletP J (p : Int) ∧ mlet J (p : Int) = lt H p := h.1.1.1.let_ hH.2.2.2 hp hp
theorem MAna.fun_ {J : Mem} {H : List Hd} (h : MAna J H) (hH : prog H) {p : Nat} (hp : p < H.length) (h2 : 1 < hds (lt H p)) : mfunP J (p : Int) ∧ mfun J (p : Int) = nm H p := h.1.1.1.fun_ hH.2.2.2 hp hp h2
/-- does a call have a frame by the way r -/
theorem R_hasFrame {H : List Hd} (hH : prog H) {J : Mem} (hA : MAna J H) {p r : Nat} (hp : p < H.length) (hl : lt H p = 33) (hr : r < 3) {Q : Post} (hQ : Q (some (.inl (if r < (wy H p).toNat then 1 else 0))) J) :
    R 165 0 [(0, .inr (some 77)), (1, .inl (p : Int)), (2, .inl (r : Int))] [] J Q := by
  have h60 := prog_60 hH
  have hw := prog_wfa hH
  have hf := (hA.2.1 p hp).1
  have h01 := tl_01 hw hA.2.2.2 p hp
  obtain ⟨f1, f2⟩ := hA.fun_ hH hp (by rw [hl]; decide)
  have hfr := fun_range (call_fun hH.1 hp hl).1
  have hf6 := fnr_lt hH.1 hp hl
  have hfn : wrap (nm H p - 65) = (fnr H p : Int) := by unfold fnr; rw [wrap_of (by omega) (by omega)]; omega
  have hwy : wy H p = if tl H p = 1 then 1 else if jmp (rt H (fnr H p)) = true then 2 else 3 := rfl
  refine t165_0 J _ _ ⟨fun c => ⟨Or.inr rfl, ?_⟩, fun c => ⟨inb_nat (by omega), fun c2 => ⟨Or.inl rfl, ?_⟩, fun c2 => ⟨fun c3 => ⟨Or.inr rfl, ?_⟩, fun c3 => ⟨f1, ?_, fun c4 => ⟨Or.inl rfl, ?_⟩, fun c4 => ⟨Or.inr rfl, ?_⟩⟩⟩⟩⟩
  · rw [if_pos (by rcases wy_cases H p with e | e | e <;> rw [e] <;> omega)] at hQ
    exact hQ
  · rw [toNat_c, hf] at c2
    rw [if_pos (by omega : tl H p = 1)] at hwy
    rw [if_neg (by rw [hwy]; omega)] at hQ
    exact hQ
  · rw [toNat_c, hf] at c2
    rw [if_neg (by omega)] at hwy
    rw [if_pos (by rw [hwy]; split <;> omega)] at hQ
    exact hQ
  · rw [f2, hfn]; exact inb_nat hf6
  · rw [toNat_c, hf] at c2
    rw [f2, hfn, toNat_c, (hA.2.2.1 _ hf6), b2i_0, mjmp_rt] at c4
    rw [if_neg (by omega), if_pos (by simpa using c4)] at hwy
    rw [if_neg (by rw [hwy]; omega)] at hQ
    exact hQ
  · rw [toNat_c, hf] at c2
    rw [f2, hfn, toNat_c, (hA.2.2.1 _ hf6), b2i_0, mjmp_rt] at c4
    rw [if_neg (by omega), if_neg (by simpa using c4)] at hwy
    rw [if_pos (by rw [hwy]; omega)] at hQ
    exact hQ
theorem cntF_val {σ : Mem} {c : Int} : ∀ w x, cntF σ c w 29 x = (if x < w then σ 29 x + c else σ 29 x) ∧ cntF σ c w 28 x = (if x < w then max (σ 29 x + c) (σ 28 x) else σ 28 x) := by
  intro w
  induction w with
  | zero => intro x; exact ⟨by simp [cntF], by simp [cntF]⟩
  | succ w ih =>
    intro x
    obtain ⟨a, b⟩ := ih x
    obtain ⟨aw, bw⟩ := ih w
    simp only [Nat.lt_irrefl, if_false] at aw bw
    unfold cntF
    rw [upd2_id (show 29 ≠ 28 by decide), upd2_at, upd2_at, upd2_id (show 28 ≠ 29 by decide), aw, bw, a, b]
    by_cases hx : x = w
    · subst hx
      simp
    · have e : (x < w + 1) = (x < w) := by apply propext; omega
      simp [hx, e]
def FrF (I0 I : Mem) : Prop := ∀ id, id ≠ 109 → id ≠ 110 → I id = I0 id
theorem FrF.frM {I J : Mem} (h : FrF I J) : FrM I J := ⟨fun id _ b => h id (by omega) (by omega), fun k _ => by rw [h 77 (by decide) (by decide)]⟩
section Frames
variable {H : List Hd} {J0 : Mem} {p : Nat} {f m : Nat → Int} {k : Int} {Q : Post}
theorem up_loop (hH : prog H) (hA : MAna J0 H) (hp : p < H.length) (hl : lt H p = 33) (hb : ∀ x, x < 3 → -1000 ≤ f x ∧ f x ≤ 1000) (hfm : ∀ x, x < 3 → f x ≤ m x)
    (hQ : ∀ J, FrF J0 J → (∀ x, x < 3 → J 109 x = (if x < (wy H p).toNat then f x + 1 else f x) ∧ J 110 x = (if x < (wy H p).toNat then max (f x + 1) (m x) else m x)) → R 166 87 [(0, .inr (some 77)), (1, .inl k), (2, .inl (p : Int)), (3, .inl ((3 : Nat) : Int))] [] J Q) :
    ∀ (d r : Nat) (J : Mem), r + d = 3 → FrF J0 J → (∀ x, x < 3 → J 109 x = (if x < r ∧ x < (wy H p).toNat then f x + 1 else f x) ∧ J 110 x = (if x < r ∧ x < (wy H p).toNat then max (f x + 1) (m x) else m x)) →
      R 166 87 [(0, .inr (some 77)), (1, .inl k), (2, .inl (p : Int)), (3, .inl (r : Int))] [] J Q := by
  intro d
  induction d with
  | zero =>
    intro r J hr hF hJ
    have : r = 3 := by omega
    subst this
    refine hQ J hF (fun x hx => ?_)
    have := hJ x hx
    simp only [hx, true_and] at this
    exact this
  | succ d ih =>
    intro r J hr hF hJ
    have hr3 : r < 3 := by omega
    obtain ⟨j9, j10⟩ := hJ r hr3
    rw [if_neg (by omega)] at j9 j10
    have hb' := hb r hr3
    have hfm' := hfm r hr3
    have step : ∀ (a b : Int), a = (if r < (wy H p).toNat then f r + 1 else f r) → b = (if r < (wy H p).toNat then max (f r + 1) (m r) else m r) →
        R 166 87 [(0, .inr (some 77)), (1, .inl k), (2, .inl (p : Int)), (3, .inl (wrap ((r : Int) + 1)))] [] (upd2 (upd2 J 109 r a) 110 r b) Q := by
      intro a b ha hb
      rw [wrap_succ (by omega)]
      refine ih (r + 1) _ (by omega) (fun id h1 h2 => by rw [upd2_id h2, upd2_id h1]; exact hF id h1 h2) (fun x hx => ?_)
      rw [upd2_id (show 109 ≠ 110 by decide), upd2_at, upd2_at, upd2_id (show 110 ≠ 109 by decide), (hJ x hx).1, (hJ x hx).2, ha, hb]
      by_cases hxr : x = r
      · subst hxr
        simp
      · have e : (x < r + 1) = (x < r) := by apply propext; omega
        simp [hxr, e]
    refine t166_87 J _ _ _ ⟨fun c => absurd c (by omega), fun _ => ⟨inb_nat hr3, R_hasFrame hH (hA.frM hF.frM) hp hl hr3 ⟨_, rfl, fun c => ?_, fun c => ?_⟩⟩⟩
    · have hrw : ¬ r < (wy H p).toNat := by intro q; rw [if_pos q] at c; omega
      dsimp only
      have ea : wrap (J 109 r + 0) = f r := by rw [j9, wrap_of (by omega) (by omega)]; omega
      rw [toNat_c, ea]
      have e1 : upd2 J 109 r (f r) 109 r = f r := by simp [upd2]
      have e2 : upd2 J 109 r (f r) 110 r = m r := by rw [← j10]; simp [upd2]
      rw [e1, e2]
      refine ⟨inb_nat hr3, inb_nat hr3, inb_nat hr3, fun _ => ⟨inb_nat hr3, inb_nat hr3, ?_⟩, fun c2 => absurd hfm' c2⟩
      exact step _ _ (by rw [if_neg hrw]) (by rw [if_neg hrw])
    · have hrw : r < (wy H p).toNat := by
        rcases Nat.lt_or_ge r (wy H p).toNat with q | q
        · exact q
        · rw [if_neg (by omega)] at c
          exact absurd rfl c
      dsimp only
      have ea : wrap (J 109 r + 1) = f r + 1 := by rw [j9, wrap_of (by omega) (by omega)]
      rw [toNat_c, ea]
      have e1 : upd2 J 109 r (f r + 1) 109 r = f r + 1 := by simp [upd2]
      have e2 : upd2 J 109 r (f r + 1) 110 r = m r := by rw [← j10]; simp [upd2]
      rw [e1, e2]
      refine ⟨inb_nat hr3, inb_nat hr3, inb_nat hr3, fun c2 => ⟨inb_nat hr3, inb_nat hr3, ?_⟩, fun c2 => ⟨inb_nat hr3, inb_nat hr3, ?_⟩⟩
      · exact step _ _ (by rw [if_pos hrw]) (by rw [if_pos hrw]; omega)
      · exact step _ _ (by rw [if_pos hrw]) (by rw [if_pos hrw]; omega)
theorem down_loop (hH : prog H) (hA : MAna J0 H) (hp : p < H.length) (hl : lt H p = 33) (hb : ∀ x, x < 3 → -1000 ≤ f x ∧ f x ≤ 1000)
    (hQ : ∀ J, FrF J0 J → J 110 = J0 110 → (∀ x, x < 3 → J 109 x = (if x < (wy H p).toNat then f x - 1 else f x)) → R 166 230 [(0, .inr (some 77)), (2, .inl (p : Int)), (3, .inl ((3 : Nat) : Int))] [] J Q) :
    ∀ (d r : Nat) (J : Mem), r + d = 3 → FrF J0 J → J 110 = J0 110 → (∀ x, x < 3 → J 109 x = (if x < r ∧ x < (wy H p).toNat then f x - 1 else f x)) →
      R 166 230 [(0, .inr (some 77)), (2, .inl (p : Int)), (3, .inl (r : Int))] [] J Q := by
  intro d
  induction d with
  | zero =>
    intro r J hr hF h10 hJ
    have : r = 3 := by omega
    subst this
    refine hQ J hF h10 (fun x hx => ?_)
    have := hJ x hx
    simp only [hx, true_and] at this
    exact this
  | succ d ih =>
    intro r J hr hF h10 hJ
    have hr3 : r < 3 := by omega
    have j9 := hJ r hr3
    rw [if_neg (by omega)] at j9
    have hb' := hb r hr3
    have step : ∀ (a : Int), a = (if r < (wy H p).toNat then f r - 1 else f r) →
        R 166 230 [(0, .inr (some 77)), (2, .inl (p : Int)), (3, .inl (wrap ((r : Int) + 1)))] [] (upd2 J 109 r a) Q := by
      intro a ha
      rw [wrap_succ (by omega)]
      refine ih (r + 1) _ (by omega) (fun id h1 h2 => by rw [upd2_id h1]; exact hF id h1 h2) (by rw [upd2_id (by decide)]; exact h10) (fun x hx => ?_)
      rw [upd2_at, hJ x hx, ha]
      by_cases hxr : x = r
      · subst hxr
        simp
      · have e : (x < r + 1) = (x < r) := by apply propext; omega
        simp [hxr, e]
    refine t166_230 J _ _ ⟨fun c => absurd c (by omega), fun _ => ⟨inb_nat hr3, R_hasFrame hH (hA.frM hF.frM) hp hl hr3 ⟨_, rfl, fun c => ⟨inb_nat hr3, ?_⟩, fun c => ⟨inb_nat hr3, ?_⟩⟩⟩⟩
    · have hrw : ¬ r < (wy H p).toNat := by intro q; rw [if_pos q] at c; omega
      dsimp only
      have ea : wrap (J 109 r - 0) = f r := by rw [j9, wrap_of (by omega) (by omega)]; omega
      rw [toNat_c, ea]
      exact step _ (by rw [if_neg hrw])
    · have hrw : r < (wy H p).toNat := by
        rcases Nat.lt_or_ge r (wy H p).toNat with q | q
        · exact q
        · rw [if_neg (by omega)] at c
          exact absurd rfl c
      dsimp only
      have ea : wrap (J 109 r - 1) = f r - 1 := by rw [j9, wrap_of (by omega) (by omega)]
      rw [toNat_c, ea]
      exact step _ (by rw [if_pos hrw])
end Frames
