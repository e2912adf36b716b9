/-! BOTH SIDES TOGETHER: what stays alike -/
def bc1 (a : Int) : Int := mzW (a - (mzAnd (mzUsh a 1) 1431655765))
def bc2 (x : Int) : Int := mzW ((mzAnd x 858993459) + (mzAnd (mzUsh x 2) 858993459))
def bc3 (x : Int) : Int := mzAnd (mzW (x + (mzUsh x 4))) 252645135
def bc4 (x : Int) : Int := mzW (x + (mzUsh x 8))
def bc5 (x : Int) : Int := mzAnd (mzW (x + (mzUsh x 16))) 63
theorem bc_all : ∀ i, i < 64 → ∀ j, j < 64 → bc5 (bc4 (bc3 (bc2 (bc1 ((64 * i + j : Nat) : Int))))) = (cnt (64 * i + j) 12 : Int) := by decide +kernel
theorem k_bitCount {d : Nat} {q : Int → mzM → Prop} {a : Nat} {μ : mzM} (ha : a < 4096) (h : q (cnt a 12) μ) : mzCl d 190 [mzI a] μ (mzQi q) := by
  refine g190_e _ _ ?_
  have e := bc_all (a / 64) (by omega) (a % 64) (by omega)
  rw [Nat.div_add_mod a 64] at e
  unfold bc5 bc4 bc3 bc2 bc1 at e
  rw [e]
  exact h
theorem nDiv2 : ∀ n, n < 100 → mzDiv ((n : Nat) : Int) 2 = ((n / 2 : Nat) : Int) := by decide +kernel
/-- what the model keeps besides m -/
def FR (μ : mzM) (w : Wd) : Prop := μ 0 4 = 0 ∨ (μ 0 4 = 1 ∧ ∀ s, s < 2 ^ wN w → μ 8 s = (stS w (H0 w) (hw w) s : Nat))
def MI (μ : mzM) (w : Wd) : Prop := MW μ 1 w ∧ FR μ w
def scM (k j : Nat) : Prop := k = 1 ∨ k = 3 ∨ k = 6 ∨ k = 7 ∨ k = 8 ∨ k = 9 ∨ k = 10 ∨ (k = 0 ∧ (j = 4 ∨ j = 13 ∨ j = 14 ∨ j = 15 ∨ j = 20 ∨ j = 21))
def scC (k : Nat) : Prop := k = 15 ∨ k = 16 ∨ k = 17 ∨ k = 18 ∨ k = 19 ∨ k = 22 ∨ (124 ≤ k ∧ k ≤ 147) ∨ isW 0 k
def FM (μ μ' : mzM) : Prop := ∀ k j, ¬ scM k j → μ' k j = μ k j
def FC (μ μ' : mzM) : Prop := ∀ k j, ¬ scC k → μ' k j = μ k j
theorem FM.rf {μ : mzM} : FM μ μ := fun _ _ _ => rfl
theorem FC.rf {μ : mzM} : FC μ μ := fun _ _ _ => rfl
theorem FM.tr {μ μ' μ'' : mzM} (h : FM μ μ') (h2 : FM μ' μ'') : FM μ μ'' := fun a b h1 => (h2 a b h1).trans (h a b h1)
theorem FC.tr {μ μ' μ'' : mzM} (h : FC μ μ') (h2 : FC μ' μ'') : FC μ μ'' := fun a b h1 => (h2 a b h1).trans (h a b h1)
theorem FM.st {μ μ' : mzM} {k j : Nat} {v : Int} (h : FM μ μ') (hs : scM k j) : FM μ (mzS μ' k j v) := fun a b h1 => by
  have : a ≠ k ∨ b ≠ j := by
    by_cases c : a = k ∧ b = j
    · rw [c.1, c.2] at h1; exact absurd hs h1
    · omega
  rw [S_ne this]; exact h a b h1
theorem FC.st {μ μ' : mzM} {k j : Nat} {v : Int} (h : FC μ μ') (hs : scC k) : FC μ (mzS μ' k j v) := fun a b h1 => by
  have : a ≠ k := fun c => by rw [c] at h1; exact absurd hs h1
  rw [S_ne (Or.inl this)]; exact h a b h1
theorem MI.cg {μ μ' : mzM} {w : Wd} (h : MI μ w) (h0 : μ' 0 4 = μ 0 4) (h1 : ∀ j, μ' 1 j = μ 1 j) (h8 : ∀ j, μ' 8 j = μ 8 j) : MI μ' w := ⟨h.1.cg h1, by
  have := h.2
  unfold FR at this ⊢
  simp only [h0, h8]
  exact this⟩
theorem MI.c {μ μ' : mzM} {w : Wd} (h : MI μ w) (f : FC μ μ') : MI μ' w := h.cg (f 0 4 (by unfold scC isW; omega)) (fun j => f 1 j (by unfold scC isW; omega)) (fun j => f 8 j (by unfold scC isW; omega))
theorem CW.m {μ μ' : mzM} {w : Wd} (h : CW μ 0 w) (hN : wN w ≤ 12) (f : FM μ μ') : CW μ' 0 w := h.cg hN fun k i hk => f k i (by unfold isW at hk; unfold scM; omega)
/-- kept images, tape, sheets -/
def KpOk (μ : mzM) : Prop := μ 0 2 = μ 14 7 ∧ (μ 0 2 = 0 ∨ (μ 0 2 = 1 ∧ ∃ k, WOk k ∧ MW μ 2 k ∧ CW μ 1 k))
def TapeOk (μ : mzM) : Prop := ∃ len : Nat, len ≤ 120 ∧ μ 0 6 = len ∧ μ 23 1 = len ∧ ∀ i, i < len → μ 4 i = μ 24 i
def ShOk (μ : mzM) : Prop := ∀ s, s < 4 → μ 11 s = μ (44 + s) 0 ∧ μ 12 s = μ (44 + s) 1 ∧ (0 ≤ μ 12 s ∧ μ 12 s ≤ 40) ∧ (μ 11 s = 0 ∨ μ 11 s = 8 ∨ μ 11 s = 16 ∨ μ 11 s = 32) ∧ ∀ i, i < 40 → μ 13 (40 * s + i) = μ (48 + s) i
def RW (μ : mzM) (w : Wd) : Prop := WOk w ∧ MI μ w ∧ CW μ 0 w ∧ KpOk μ ∧ TapeOk μ ∧ ShOk μ
theorem KpOk.cg {μ μ' : mzM} (h : KpOk μ) (e : ∀ k j, (k = 2 ∨ isW 1 k ∨ (k = 0 ∧ j = 2) ∨ (k = 14 ∧ j = 7)) → μ' k j = μ k j) : KpOk μ' := by
  obtain ⟨h1, h2⟩ := h
  refine ⟨by rw [e 0 2 (by omega), e 14 7 (by omega)]; exact h1, ?_⟩
  rw [e 0 2 (by omega)]
  rcases h2 with h2 | ⟨h2, k, a1, a2, a3⟩
  · exact Or.inl h2
  · exact Or.inr ⟨h2, k, a1, a2.cg fun j => e 2 j (by omega), a3.cg a1.1 fun k i hk => e k i (Or.inr (Or.inl hk))⟩
theorem TapeOk.cg {μ μ' : mzM} (h : TapeOk μ) (e : ∀ k j, ((k = 0 ∧ j = 6) ∨ (k = 23 ∧ j = 1) ∨ k = 4 ∨ k = 24) → μ' k j = μ k j) : TapeOk μ' := by
  obtain ⟨len, h1, h2, h3, h4⟩ := h
  exact ⟨len, h1, by rw [e 0 6 (by omega)]; exact h2, by rw [e 23 1 (by omega)]; exact h3, fun i hi => by rw [e 4 i (by omega), e 24 i (by omega)]; exact h4 i hi⟩
theorem ShOk.cg {μ μ' : mzM} (h : ShOk μ) (e : ∀ k j, (k = 11 ∨ k = 12 ∨ k = 13 ∨ (44 ≤ k ∧ k ≤ 51)) → μ' k j = μ k j) : ShOk μ' := by
  intro s hs
  obtain ⟨h1, h2, h3, h4, h5⟩ := h s hs
  refine ⟨?_, ?_, ?_, ?_, fun i hi => ?_⟩
  · rw [e 11 s (by omega), e _ 0 (by omega)]; exact h1
  · rw [e 12 s (by omega), e _ 1 (by omega)]; exact h2
  · rw [e 12 s (by omega)]; exact h3
  · rw [e 11 s (by omega)]; exact h4
  · rw [e 13 _ (by omega), e _ i (by omega)]; exact h5 i hi
theorem RW.st {μ m1 m2 : mzM} {w w' : Wd} (R : RW μ w) (hW : WOk w') (f1 : FC μ m1) (c : CW m1 0 w') (f2 : FM m1 m2) (m : MI m2 w') : RW m2 w' := by
  obtain ⟨-, -, -, r4, r5, r6⟩ := R
  have e : ∀ k j, ¬ scM k j → ¬ scC k → m2 k j = μ k j := fun k j a1 a2 => (f2 k j a1).trans (f1 k j a2)
  exact ⟨hW, m, c.m hW.1 f2, r4.cg fun k j h => e k j (by unfold scM isW at *; omega) (by unfold scC isW at *; omega), r5.cg fun k j h => e k j (by unfold scM; omega) (by unfold scC isW; omega), r6.cg fun k j h => e k j (by unfold scM; omega) (by unfold scC isW; omega)⟩
/-- a pair of calls, each with its answer and its world -/
theorem pair {d yc ym : Nat} {ac am : List mzV} {μ : mzM} {w : Wd} {q : Int → Int → mzM → Prop} (S : Int × Wd) (R : RW μ w) (hS : WOk S.2)
    (kc : ∀ q' : Int → mzM → Prop, (∀ μ', FC μ μ' → CW μ' 0 S.2 → q' S.1 μ') → mzCl d yc ac μ (mzQi q'))
    (cm : ∀ (m1 : mzM) (q' : Int → mzM → Prop), FC μ m1 → MI m1 w → (∀ μ', FM m1 μ' → MI μ' S.2 → q' S.1 μ') → mzCl d ym am m1 (mzQi q'))
    (h : ∀ a μ' w', RW μ' w' → q a a μ') : mzCl d yc ac μ (mzQi fun a m1 => mzCl d ym am m1 (mzQi fun c m2 => q a c m2)) :=
  kc _ fun m1 f1 c1 => cm m1 _ f1 (R.2.1.c f1) fun m2 f2 i2 => h _ m2 S.2 (R.st hS f1 c1 f2 i2)
/-- the same, the answers not alike -/
theorem pair' {d yc ym : Nat} {ac am : List mzV} {μ : mzM} {w : Wd} {q : Int → Int → mzM → Prop} (w2 : Wd) (R : RW μ w) (hS : WOk w2)
    (kc : ∀ q' : Int → mzM → Prop, (∀ a μ', FC μ μ' → CW μ' 0 w2 → q' a μ') → mzCl d yc ac μ (mzQi q'))
    (cm : ∀ (m1 : mzM) (q' : Int → mzM → Prop), FC μ m1 → MI m1 w → (∀ a μ', FM m1 μ' → MI μ' w2 → q' a μ') → mzCl d ym am m1 (mzQi q'))
    (h : ∀ a c μ' w', RW μ' w' → q a c μ') : mzCl d yc ac μ (mzQi fun a m1 => mzCl d ym am m1 (mzQi fun c m2 => q a c m2)) :=
  kc _ fun a m1 f1 c1 => cm m1 _ f1 (R.2.1.c f1) fun c m2 f2 i2 => h _ _ m2 w2 (R.st hS f1 c1 f2 i2)
-- findings
theorem c_fd {d : Nat} {q : Int → mzM → Prop} {f : Int} {μ : mzM} {w : Wd} (hf : -1000007 ≤ f ∧ f ≤ -1000001) (I : MI μ w) (h : ∀ μ', FM μ μ' → MI μ' w → q f μ') : mzCl d 1 [mzR 0, mzI f] μ (mzQi q) :=
  c_finds hf fun v j => h _ (FM.rf.st (by unfold scM; omega)) (I.cg (S_ne (by omega)) (fun _ => S_ne (by omega)) (fun _ => S_ne (by omega)))
theorem k_fd {d : Nat} {q : Int → mzM → Prop} {f : Int} {μ : mzM} {w : Wd} (hf : -1000007 ≤ f ∧ f ≤ -1000001) (hN : wN w ≤ 12) (C : CW μ 0 w) (h : ∀ μ', FC μ μ' → CW μ' 0 w → q f μ') : mzCl d 173 [mzR 14, mzI f] μ (mzQi q) := by
  have e : mzW (-1000001 - f) = -1000001 - f := wid (by omega) (by omega)
  refine g173_e _ _ ?_
  rw [e]
  exact ⟨fun z => by omega, fun _ => ⟨fun z => by omega, fun z => ⟨by omega, by omega, h _ (FC.rf.st (by unfold scC; omega)) (C.cg hN fun k i hk => S_ne (by unfold isW at hk; omega))⟩⟩⟩
theorem k_isPlace {d : Nat} {q : Int → mzM → Prop} {a : Int} {n : Nat} {μ : mzM} (hn : μ 26 0 = n) (h1 : 0 ≤ a → a < n → q 1 μ) (h0 : a < 0 ∨ (n : Int) ≤ a → q 0 μ) : mzCl d 174 [mzR 14, mzI a] μ (mzQi q) :=
  g174_e _ _ ⟨fun z => ⟨or00, h0 (Or.inl z)⟩, fun z => ⟨fun z2 => ⟨or00, h0 (by omega)⟩, fun z2 => ⟨or10, h1 z (by omega)⟩⟩⟩
theorem k_all {d : Nat} {q : Int → mzM → Prop} {n : Nat} {μ : mzM} (hn : μ 26 0 = n) (hn2 : n ≤ 12) (h : q ((2 ^ n - 1 : Nat) : Int) μ) : mzCl d 94 [mzR 26] μ (mzQi q) := by
  refine g94_e _ ?_
  have h1 := pow12 hn2
  have h2 : 0 < 2 ^ n := Nat.pow_pos (by omega)
  have e : mzW (mzShl 1 (μ 26 0) - 1) = ((2 ^ n - 1 : Nat) : Int) := by
    rw [hn, nPow (by omega), wid (by omega) (by omega)]
    omega
  rw [e]
  exact h
theorem k_isSet {d : Nat} {q : Int → mzM → Prop} {a : Int} {n : Nat} {μ : mzM} (hn : μ 26 0 = n) (hn2 : n ≤ 12) (h1 : ∀ s : Nat, a = s → s < 2 ^ n → q 1 μ) (h0 : a < 0 ∨ ((2 ^ n : Nat) : Int) ≤ a → q 0 μ) : mzCl (d + 1) 175 [mzR 14, mzI a] μ (mzQi q) := by
  have h2 : 0 < 2 ^ n := Nat.pow_pos (by omega)
  exact g175_e _ _ ⟨fun z => ⟨or00, h0 (Or.inl z)⟩, fun z => k_all hn hn2 ⟨fun z2 => ⟨or00, h0 (by omega)⟩, fun z2 => ⟨or10, h1 a.toNat (by omega) (by omega)⟩⟩⟩
