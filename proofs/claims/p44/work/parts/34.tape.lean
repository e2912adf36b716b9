/-! PAIRS: feed, wipe, world, image, undo, tear -/
theorem RW.cg {μ m : mzM} {w : Wd} (R : RW μ w) (e : ∀ k j, (k = 0 → j = 2 ∨ j = 4) → (k = 14 → j = 7) → k ≠ 3 → k ≠ 15 → k ≠ 4 → k ≠ 23 → k ≠ 24 → m k j = μ k j) (t : TapeOk m) : RW m w := by
  obtain ⟨r1, r2, r3, r4, -, r6⟩ := R
  refine ⟨r1, r2.cg (e 0 4 (by omega) (by omega) (by omega) (by omega) (by omega) (by omega) (by omega)) (fun j => e 1 j (by omega) (by omega) (by omega) (by omega) (by omega) (by omega) (by omega)) (fun j => e 8 j (by omega) (by omega) (by omega) (by omega) (by omega) (by omega) (by omega)), r3.cg r1.1 fun k i hk => ?_, r4.cg fun k j hk => ?_, t, r6.cg fun k j hk => ?_⟩
  · unfold isW at hk
    exact e k i (by omega) (by omega) (by omega) (by omega) (by omega) (by omega) (by omega)
  · unfold isW at hk
    exact e k j (by omega) (by omega) (by omega) (by omega) (by omega) (by omega) (by omega)
  · exact e k j (by omega) (by omega) (by omega) (by omega) (by omega) (by omega) (by omega)
/-- a finding on each side -/
theorem p_fd {dc dm : Nat} {q : Int → Int → mzM → Prop} {f g : Int} {μ : mzM} {w : Wd} (hf : -1000007 ≤ f ∧ f ≤ -1000001) (hg : -1000007 ≤ g ∧ g ≤ -1000001) (R : RW μ w) (h : ∀ μ', RW μ' w → q f g μ') : mzCl dc 173 [mzR 14, mzI f] μ (mzQi fun a m1 => mzCl dm 1 [mzR 0, mzI g] m1 (mzQi fun c m2 => q a c m2)) :=
  k_fd hf R.1.1 R.2.2.1 fun m1 f1 c1 => c_fd hg (R.2.1.c f1) fun m2 f2 i2 => h m2 (R.st R.1 f1 c1 f2 i2)
def byt (a : Int) (n j : Nat) : Int := mzAnd (mzShr a (mzW (8 * ((n : Int) - 1 - j)))) 255
theorem k_feedL {d : Nat} {q : Int → mzM → Prop} {a : Int} {n len : Nat} {μ : mzM} (hl : len + n ≤ 120) (hn : n ≤ 4) (h0 : μ 23 1 = len) (h : ∀ μ', (∀ k j, (k ≠ 23 ∨ j ≠ 1) → k ≠ 24 → μ' k j = μ k j) → μ' 23 1 = ((len + n : Nat) : Int) → (∀ i, i < len → μ' 24 i = μ 24 i) → (∀ j, j < n → μ' 24 (len + j) = byt a n j) → q ((len + n : Nat) : Int) μ') :
    ∀ (c j : Nat) (x3 : Int) (m : mzM), j + c = n → x3 = (n : Int) - 1 - j → (∀ k i, (k ≠ 23 ∨ i ≠ 1) → k ≠ 24 → m k i = μ k i) → m 23 1 = ((len + j : Nat) : Int) → (∀ i, i < len → m 24 i = μ 24 i) → (∀ i, i < j → m 24 (len + i) = byt a n i) → mzWp (d + 1) 129 42 [mzR 14, mzI a, none, mzI x3] [] m (mzQi q) := by
  intro c
  induction c with
  | zero =>
    intro j x3 m hj hx e1 e2 e3 e4
    have : j = n := by omega
    subst this
    exact g129_42 _ _ _ ⟨fun _ => by rw [e2]; exact h m e1 e2 e3 e4, fun z => by omega⟩
  | succ c ih =>
    intro j x3 m hj hx e1 e2 e3 e4
    have ew : mzW (((len + j : Nat) : Int) + 1) = ((len + (j + 1) : Nat) : Int) := by rw [wid (by omega) (by omega)]; omega
    refine g129_42 _ _ _ ⟨fun z => by omega, fun _ => g115_e _ _ ⟨fun z => by omega, fun _ => ?_⟩⟩
    rw [e2, Int.toNat_natCast, ew]
    refine ⟨by omega, ih (j + 1) _ _ (by omega) (by rw [wid (by omega) (by omega)]; omega) (fun k i h1 h2 => ?_) S_eq (fun i hi => ?_) (fun i hi => ?_)⟩
    · rw [S_ne (by omega), S_ne (by omega)]; exact e1 k i h1 h2
    · rw [S_ne (by omega), S_ne (by omega)]; exact e3 i hi
    · rw [S_ne (by omega)]
      by_cases c1 : i = j
      · rw [c1, S_eq, hx]; rfl
      · rw [S_ne (by omega)]; exact e4 i (by omega)
theorem c_feedL {d : Nat} {q : Int → mzM → Prop} {a : Int} {n len : Nat} {μ : mzM} (hl : len + n ≤ 120) (hn : n ≤ 4) (h0 : μ 0 6 = len) (h : ∀ μ', (∀ k j, (k ≠ 0 ∨ j ≠ 6) → k ≠ 4 → μ' k j = μ k j) → μ' 0 6 = ((len + n : Nat) : Int) → (∀ i, i < len → μ' 4 i = μ 4 i) → (∀ j, j < n → μ' 4 (len + j) = byt a n j) → q ((len + n : Nat) : Int) μ') :
    ∀ (c j : Nat) (x3 : Int) (m : mzM), j + c = n → x3 = (n : Int) - 1 - j → (∀ k i, (k ≠ 0 ∨ i ≠ 6) → k ≠ 4 → m k i = μ k i) → m 0 6 = ((len + j : Nat) : Int) → (∀ i, i < len → m 4 i = μ 4 i) → (∀ i, i < j → m 4 (len + i) = byt a n i) → mzWp (d + 1) 9 41 [mzR 0, mzI a, none, mzI x3] [] m (mzQi q) := by
  intro c
  induction c with
  | zero =>
    intro j x3 m hj hx e1 e2 e3 e4
    have : j = n := by omega
    subst this
    exact g9_41 _ _ _ ⟨fun _ => by rw [e2]; exact h m e1 e2 e3 e4, fun z => by omega⟩
  | succ c ih =>
    intro j x3 m hj hx e1 e2 e3 e4
    have ew : mzW (((len + j : Nat) : Int) + 1) = ((len + (j + 1) : Nat) : Int) := by rw [wid (by omega) (by omega)]; omega
    refine g9_41 _ _ _ ⟨fun z => by omega, fun _ => ?_⟩
    rw [e2, Int.toNat_natCast, ew]
    refine ⟨by omega, ih (j + 1) _ _ (by omega) (by rw [wid (by omega) (by omega)]; omega) (fun k i h1 h2 => ?_) S_eq (fun i hi => ?_) (fun i hi => ?_)⟩
    · rw [S_ne (by omega), S_ne (by omega)]; exact e1 k i h1 h2
    · rw [S_ne (by omega), S_ne (by omega)]; exact e3 i hi
    · rw [S_ne (by omega)]
      by_cases c1 : i = j
      · rw [c1, S_eq, hx]; rfl
      · rw [S_ne (by omega)]; exact e4 i (by omega)
theorem p_feed {d : Nat} {μ : mzM} {w : Wd} {q : Int → Int → mzM → Prop} {a n : Int} (hn : -2147483648 ≤ n ∧ n < 2147483648) (R : RW μ w) (h : ∀ a μ' w', RW μ' w' → q a a μ') : mzCl (d + 1) 129 [mzR 14, mzI a, mzI n] μ (mzQi fun r m1 => mzCl (d + 1) 9 [mzR 0, mzI a, mzI n] m1 (mzQi fun c m2 => q r c m2)) := by
  obtain ⟨len, l1, l2, l3, l4⟩ := id R.2.2.2.2.1
  -- the reference's part of a refusal
  have cr : ∀ m1, RW m1 w → m1 0 6 = len → (n < 1 ∨ 4 < n) → mzCl (d + 1) 9 [mzR 0, mzI a, mzI n] m1 (mzQi fun c m2 => q (-1000001) c m2) := fun m1 R1 e c => g9_e _ _ _ (c_in (fun z1 z2 => by omega) (fun _ => ⟨fun z => absurd rfl z, fun _ => c_fd (by omega) R1.2.1 fun m2 f2 i2 => h _ m2 w (R1.st R1.1 FC.rf R1.2.2.1 f2 i2)⟩))
  have kr : (n < 1 ∨ 4 < n) → mzCl d 173 [mzR 14, mzI (-1000001)] μ (mzQi fun r2 m1 => (fun r m1 => mzCl (d + 1) 9 [mzR 0, mzI a, mzI n] m1 (mzQi fun c m2 => q r c m2)) r2 m1) := fun c => k_fd (by omega) R.1.1 R.2.2.1 fun m1 f1 c1 => cr m1 (R.st R.1 f1 c1 FM.rf (R.2.1.c f1)) (by rw [f1 0 6 (by unfold scC isW; omega)]; exact l2) c
  refine g129_e _ _ _ ⟨fun z => kr (Or.inl z), fun n1 => ⟨fun n4 => ?_, fun z => kr (Or.inr z)⟩⟩
  obtain ⟨n, rfl⟩ : ∃ k : Nat, n = k := ⟨n.toNat, by omega⟩
  have ew : mzW ((len : Int) + n) = ((len + n : Nat) : Int) := by rw [wid (by omega) (by omega)]; omega
  rw [l3, ew]
  refine ⟨fun z => ?_, fun z => ?_⟩
  · refine k_feedL (len := len) (n := n) (by omega) (by omega) l3 (fun m1 e1 e2 e3 e4 => ?_) n 0 _ μ (by omega) (by rw [wid (by omega) (by omega)]; omega) (fun _ _ _ _ => rfl) l3 (fun _ _ => rfl) (fun i hi => by omega)
    have l2' : m1 0 6 = len := by rw [e1 0 6 (by omega) (by omega)]; exact l2
    refine g9_e _ _ _ (c_in (fun _ _ => ⟨fun _ => ⟨fun _ => ?_, fun z2 => ?_⟩, fun z => absurd z (by decide)⟩) (fun z => by omega))
    · refine c_feedL (len := len) (n := n) (by omega) (by omega) l2' (fun m2 g1 g2 g3 g4 => h _ m2 w (R.cg (fun k j h1 h2 h3 h4 h5 h6 h7 => ?_) ⟨len + n, by omega, g2, ?_, fun i hi => ?_⟩)) n 0 _ m1 (by omega) (by rw [wid (by omega) (by omega)]; omega) (fun _ _ _ _ => rfl) l2' (fun _ _ => rfl) (fun i hi => by omega)
      · rw [g1 k j (by omega) h5, e1 k j (by omega) h7]
      · rw [g1 23 1 (by omega) (by omega)]; exact e2
      · rw [g1 24 i (by omega) (by omega)]
        by_cases c : i < len
        · rw [g3 i c, e3 i c, e1 4 i (by omega) (by omega)]; exact l4 i c
        · have e : i = len + (i - len) := by omega
          rw [e, g4 _ (by omega), e4 _ (by omega)]
    · rw [l2', ew] at z2; omega
  · refine k_fd (by omega) R.1.1 R.2.2.1 fun m1 f1 c1 => ?_
    have l2' : m1 0 6 = len := by rw [f1 0 6 (by unfold scC isW; omega)]; exact l2
    refine g9_e _ _ _ (c_in (fun _ _ => ⟨fun _ => ⟨fun z2 => ?_, fun z2 => c_fd (by omega) (R.2.1.c f1) fun m2 f2 i2 => h _ m2 w (R.st R.1 f1 c1 f2 i2)⟩, fun z => absurd z (by decide)⟩) (fun z => by omega))
    rw [l2', ew] at z2; omega
theorem p_wipe {d : Nat} {μ : mzM} {w : Wd} {q : Int → Int → mzM → Prop} (R : RW μ w) (h : ∀ a μ' w', RW μ' w' → q a a μ') : mzCl d 130 [mzR 14] μ (mzQi fun a m1 => mzCl d 10 [mzR 0] m1 (mzQi fun c m2 => q a c m2)) := by
  obtain ⟨len, l1, l2, l3, l4⟩ := id R.2.2.2.2.1
  refine g130_e _ (g10_e _ ?_)
  rw [S_ne (by omega), l3, l2]
  refine h _ _ w (R.cg (fun k j h1 h2 h3 h4 h5 h6 h7 => ?_) ⟨0, by omega, S_eq, ?_, fun i hi => absurd hi (Nat.not_lt_zero i)⟩)
  · rw [S_ne (by omega), S_ne (by omega)]
  · rw [S_ne (by omega)]; exact S_eq
theorem KpOk.w {μ m : mzM} (h : KpOk μ) (e : ∀ k j, (k = 2 ∨ isW 1 k ∨ (k = 0 ∧ j = 2) ∨ (k = 14 ∧ j = 7)) → m k j = μ k j) : KpOk m := h.cg e
theorem p_world {d : Nat} {μ : mzM} {w : Wd} {q : Int → Int → mzM → Prop} (R : RW μ w) (h : ∀ a μ' w', RW μ' w' → q a a μ') : mzCl (d + 5) 131 [mzR 14] μ (mzQi fun a m1 => mzCl (d + 5) 20 [mzR 0] m1 (mzQi fun c m2 => q a c m2)) := by
  obtain ⟨len, l1, l2, l3, l4⟩ := id R.2.2.2.2.1
  obtain ⟨r1, r2, r3, r4, -, r6⟩ := R
  have tC : TpC μ (μ 24) len := ⟨l3, fun i hi => rfl⟩
  have tM : ∀ m1, XwC μ m1 → TpM m1 (μ 24) len := fun m1 x => ⟨by rw [x 0 6 (by omega) (by unfold isW; omega) (by unfold isW; omega)]; exact l2, fun i hi => by rw [x 4 i (by omega) (by unfold isW; omega) (by unfold isW; omega)]; exact l4 i hi⟩
  have iM : ∀ m1, XwC μ m1 → MI m1 w := fun m1 x => r2.cg (x 0 4 (by omega) (by unfold isW; omega) (by unfold isW; omega)) (fun j => x 1 j (by omega) (by unfold isW; omega) (by unfold isW; omega)) (fun j => x 8 j (by omega) (by unfold isW; omega) (by unfold isW; omega))
  have fin : ∀ m1 m2 w', XwC μ m1 → XwM m1 m2 → m1 23 1 = 0 → m2 0 6 = 0 → CW m1 0 w' → MI m2 w' → WOk w' → RW m2 w' := fun m1 m2 w' x1 x2 t1 t2 c i k => by
    refine ⟨k, i, c.cg k.1 (fun a j ha => x2 a j (by unfold isW at ha; omega) (by unfold isW at ha; omega) (by unfold isW at ha; omega)), r4.cg (fun a j ha => ?_), ⟨0, by omega, t2, ?_, fun i hi => absurd hi (Nat.not_lt_zero i)⟩, r6.cg (fun a j ha => ?_)⟩
    · unfold isW at ha
      rw [x2 a j (by omega) (by omega) (by omega), x1 a j (by omega) (by unfold isW; omega) (by unfold isW; omega)]
    · rw [x2 23 1 (by omega) (by omega) (by omega)]; exact t1
    · rw [x2 a j (by omega) (by omega) (by omega), x1 a j (by omega) (by unfold isW; omega) (by unfold isW; omega)]
  have ok := itsS_ok (b := μ 24) (len := len) 121 0 w (Nat.zero_le _) r1
  refine k_world l1 r1 tC r3 (fun g m1 x1 t1 c1 => ?_) (fun s g m1 x1 t1 c1 => ?_)
  · refine c_world l1 r1 (tM m1 x1) (iM m1 x1).1 (fun _ m2 x2 t2 f2 i2 => ?_) (fun s g2 => by rw [g] at g2; injection g2)
    exact h _ m2 _ (fin m1 m2 _ x1 x2 t1 t2 c1 ⟨i2, Or.inl f2⟩ (ok.1 g))
  · refine c_world l1 r1 (tM m1 x1) (iM m1 x1).1 (fun g2 => by rw [g] at g2; injection g2) (fun s2 g2 m2 x2 t2 f2 i2 => ?_)
    have : s2 = s := by rw [g] at g2; injection g2 with e; exact e.symm
    subst this
    refine h _ m2 w (fin m1 m2 w x1 x2 t1 t2 c1 ⟨i2, ?_⟩ r1)
    exact FR.r (iM m1 x1).2 rfl rfl rfl f2 (fun j => x2 8 j (by omega) (by omega) (by omega))
