/-! TOKENS: what both readers make of the bytes -/
theorem S_eq {μ : mzM} {k j : Nat} {v : Int} : mzS μ k j v k j = v := by unfold mzS; simp
theorem S_ne {μ : mzM} {k j a b : Nat} {v : Int} (h : a ≠ k ∨ b ≠ j) : mzS μ k j v a b = μ a b := by
  unfold mzS
  rw [if_neg]
  intro z
  rcases h with h | h
  · exact h z.1
  · exact h z.2
def isL (x : Int) : Bool := decide (97 ≤ x ∧ x ≤ 122)
def isD (x : Int) : Bool := decide (48 ≤ x ∧ x ≤ 57)
def isB (x : Int) : Bool := decide (x = 32)
/-- on while P holds -/
def rn (P : Int → Bool) (b : Nat → Int) (len : Nat) : Nat → Nat → Nat
  | 0, i => i
  | f + 1, i => if i < len ∧ P (b i) = true then rn P b len f (i + 1) else i
theorem rn_ge (P : Int → Bool) (b : Nat → Int) (len : Nat) : ∀ f i, i ≤ rn P b len f i := by
  intro f
  induction f with
  | zero => intro i; exact Nat.le_refl _
  | succ f ih =>
    intro i
    unfold rn
    split
    · exact Nat.le_trans (Nat.le_succ i) (ih (i + 1))
    · exact Nat.le_refl _
theorem rn_le (P : Int → Bool) (b : Nat → Int) (len : Nat) : ∀ f i, i ≤ len → rn P b len f i ≤ len := by
  intro f
  induction f with
  | zero => intro i h; exact h
  | succ f ih =>
    intro i h
    unfold rn
    split
    · next c => exact ih (i + 1) c.1
    · exact h
/-- the value of k digits from s on, 10000 at most -/
def vl (b : Nat → Int) (s : Nat) : Nat → Nat
  | 0 => 0
  | k + 1 => min 10000 (10 * vl b s k + (b (s + k) - 48).toNat)
theorem vl_le (b : Nat → Int) (s k : Nat) : vl b s k ≤ 10000 := by
  cases k with
  | zero => exact Nat.zero_le _
  | succ k => unfold vl; omega
/-- the token behind a place: its sort, where it begins, where it ends, its value -/
def tk (b : Nat → Int) (len pos : Nat) : Nat × Nat × Nat × Nat :=
  let s := rn isB b len (len - pos) pos
  if s < len then
    if isL (b s) then (1, s, rn isL b len (len - s) s, 0)
    else if isD (b s) then (2, s, rn isD b len (len - s) s, vl b s (rn isD b len (len - s) s - s))
    else if b s = 59 then (3, s, s + 1, 0)
    else (4, s, s + 1, 0)
  else (0, s, s, 0)
-- the reference's reader
def TpM (μ : mzM) (b : Nat → Int) (len : Nat) : Prop := μ 0 6 = len ∧ ∀ i, i < len → μ 4 i = b i
def TkM (μ : mzM) (t : Nat × Nat × Nat × Nat) : Prop := μ 0 7 = t.1 ∧ μ 0 8 = t.2.1 ∧ μ 0 9 = t.2.2.1 ∧ (t.1 = 2 → 0 ≤ μ 0 10 ∧ (μ 0 10 ≤ 9999 → (t.2.2.2 : Int) = μ 0 10) ∧ (9999 < μ 0 10 → t.2.2.2 = 10000))
/-- only the token's numbers differ -/
def XtM (μ μ' : mzM) : Prop := ∀ k j, (k ≠ 0 ∨ j < 7 ∨ 10 < j) → μ' k j = μ k j
theorem XtM.rf {μ : mzM} : XtM μ μ := fun _ _ _ => rfl
theorem XtM.st {μ μ' : mzM} {j : Nat} {v : Int} (h : XtM μ μ') (hj : 7 ≤ j ∧ j ≤ 10) : XtM μ (mzS μ' 0 j v) := fun a b hab => by
  rw [S_ne (by omega)]
  exact h a b hab
theorem XtM.tp {μ μ' : mzM} {b : Nat → Int} {len : Nat} (h : XtM μ μ') (ht : TpM μ b len) : TpM μ' b len := ⟨by rw [h 0 6 (by omega)]; exact ht.1, fun i hi => by rw [h 4 i (by omega)]; exact ht.2 i hi⟩
theorem XtM.tr {μ μ' μ'' : mzM} (h : XtM μ μ') (h2 : XtM μ' μ'') : XtM μ μ'' := fun a b hab => (h2 a b hab).trans (h a b hab)
theorem nx_skip {d : Nat} {q : mzM → Prop} {b : Nat → Int} {len : Nat} (hl : len ≤ 120) : ∀ (n i : Nat) (μ : mzM), i + n = len → μ 0 8 = i → TpM μ b len → (∀ μ', XtM μ μ' → μ' 0 8 = rn isB b len n i → mzWp (d + 1) 13 46 [mzR 0, none] [] μ' (mzQv q)) → mzWp (d + 1) 13 8 [mzR 0, none] [] μ (mzQv q) := by
  intro n
  induction n with
  | zero =>
    intro i μ hi h8 ht h
    refine g13_8 _ ⟨fun _ => h μ XtM.rf h8, fun z => ?_⟩
    rw [h8, ht.1] at z
    omega
  | succ n ih =>
    intro i μ hi h8 ht h
    refine g13_8 _ ⟨fun z => ?_, fun z => ⟨?_, fun z2 => ?_, fun z2 => ?_⟩⟩
    · rw [h8, ht.1] at z
      omega
    · rw [h8]; omega
    · refine h μ XtM.rf ?_
      rw [h8, Int.toNat_natCast, ht.2 i (by omega)] at z2
      have e : rn isB b len (n + 1) i = i := by
        unfold rn
        rw [if_neg]
        intro c
        have := of_decide_eq_true c.2
        exact z2 this
      rw [h8, e]
    · rw [h8, Int.toNat_natCast, ht.2 i (by omega)] at z2
      have hx : XtM μ (mzS μ 0 8 (mzW (μ 0 8 + 1))) := XtM.rf.st (by omega)
      refine ih (i + 1) _ (by omega) ?_ (hx.tp ht) (fun μ' h1 h2 => h μ' (hx.tr h1) ?_)
      · rw [S_eq, h8, wid (by omega) (by omega)]; omega
      · rw [h2]
        conv => rhs; unfold rn
        rw [if_pos ⟨by omega, decide_eq_true z2⟩]
theorem nx_word {d : Nat} {q : mzM → Prop} {b : Nat → Int} {len : Nat} (hl : len ≤ 120) : ∀ (n i : Nat) (μ : mzM), i + n = len → μ 0 9 = i → μ 0 7 = 1 → TpM μ b len → (∀ μ', XtM μ μ' → μ' 0 7 = 1 → μ' 0 8 = μ 0 8 → μ' 0 9 = rn isL b len n i → q μ') → mzWp (d + 2) 13 141 [mzR 0, none] [] μ (mzQv q) := by
  have fin : ∀ (μ : mzM), μ 0 7 = 1 → q μ → mzWp (d + 2) 13 188 [mzR 0, none] [] μ (mzQv q) := fun μ h7 h => g13_188 _ ⟨fun _ => h, fun z => by rw [h7] at z; omega⟩
  intro n
  induction n with
  | zero =>
    intro i μ hi h9 h7 ht h
    refine g13_141 _ ⟨fun z => absurd h7 z, fun _ => ⟨fun _ => fin μ h7 (h μ XtM.rf h7 rfl h9), fun z => ?_⟩⟩
    rw [h9, ht.1] at z
    omega
  | succ n ih =>
    intro i μ hi h9 h7 ht h
    refine g13_141 _ ⟨fun z => absurd h7 z, fun _ => ⟨fun z => ?_, fun z => ⟨?_, c_isLetter (fun l1 l2 => ⟨fun z => absurd z (by decide), fun _ => ?_⟩) (fun l0 => ⟨fun _ => ?_, fun z => absurd rfl z⟩)⟩⟩⟩
    · rw [h9, ht.1] at z
      omega
    · rw [h9]; omega
    · have hx : XtM μ (mzS μ 0 9 (mzW (μ 0 9 + 1))) := XtM.rf.st (by omega)
      rw [h9, Int.toNat_natCast, ht.2 i (by omega)] at l1 l2
      refine ih (i + 1) _ (by omega) ?_ (by rw [S_ne (by omega)]; exact h7) (hx.tp ht) (fun μ' h1 h2 h3 h4 => h μ' (hx.tr h1) h2 (by rw [h3, S_ne (by omega)]) ?_)
      · rw [S_eq, h9, wid (by omega) (by omega)]; omega
      · rw [h4]
        conv => rhs; unfold rn
        rw [if_pos ⟨by omega, decide_eq_true ⟨l1, l2⟩⟩]
    · rw [h9, Int.toNat_natCast, ht.2 i (by omega)] at l0
      refine fin μ h7 (h μ XtM.rf h7 rfl ?_)
      unfold rn
      rw [if_neg]
      · exact h9
      · intro c
        have := of_decide_eq_true c.2
        omega
def vrel (x : Int) (v : Nat) : Prop := 0 ≤ x ∧ x ≤ 100000 ∧ (x ≤ 9999 → (v : Int) = x) ∧ (9999 < x → v = 10000)
theorem nx_num {d : Nat} {q : mzM → Prop} {b : Nat → Int} {len s : Nat} (hl : len ≤ 120) : ∀ (n i : Nat) (μ : mzM), i + n = len → s ≤ i → μ 0 9 = i → μ 0 7 = 2 → vrel (μ 0 10) (vl b s (i - s)) → TpM μ b len → (∀ μ', XtM μ μ' → μ' 0 7 = 2 → μ' 0 8 = μ 0 8 → μ' 0 9 = rn isD b len n i → vrel (μ' 0 10) (vl b s (rn isD b len n i - s)) → q μ') → mzWp (d + 2) 13 188 [mzR 0, none] [] μ (mzQv q) := by
  intro n
  induction n with
  | zero =>
    intro i μ hi hs h9 h7 hv ht h
    refine g13_188 _ ⟨fun z => absurd h7 z, fun _ => ⟨fun _ => h μ XtM.rf h7 rfl h9 hv, fun z => ?_⟩⟩
    rw [h9, ht.1] at z
    omega
  | succ n ih =>
    intro i μ hi hs h9 h7 hv ht h
    have hb : μ 4 (μ 0 9).toNat = b i := by rw [h9, Int.toNat_natCast]; exact ht.2 i (by omega)
    refine g13_188 _ ⟨fun z => absurd h7 z, fun _ => ⟨fun z => ?_, fun z => ⟨?_, c_isDigit (fun l1 l2 => ⟨fun z => absurd z (by decide), fun _ => ⟨fun z9 => ⟨?_, ?_⟩, fun z9 => ?_⟩⟩) (fun l0 => ⟨fun _ => ?_, fun z => absurd rfl z⟩)⟩⟩⟩
    · rw [h9, ht.1] at z
      omega
    · rw [h9]; omega
    · rw [h9]; omega
    · rw [hb] at l1 l2 ⊢
      have e : rn isD b len (n + 1) i = rn isD b len n (i + 1) := by
        conv => lhs; unfold rn
        rw [if_pos ⟨by omega, decide_eq_true ⟨l1, l2⟩⟩]
      have hx : XtM μ (mzS (mzS μ 0 10 (mzW (mzW (mzW (10 * μ 0 10) + b i) - 48))) 0 9 (mzW (μ 0 9 + 1))) := (XtM.rf.st (by omega)).st (by omega)
      rw [e] at h
      obtain ⟨v1, v2, v3, v4⟩ := hv
      have ew : mzW (mzW (mzW (10 * μ 0 10) + b i) - 48) = 10 * μ 0 10 + b i - 48 := by unfold mzW; omega
      refine ih (i + 1) _ (by omega) (by omega) ?_ ?_ ?_ (hx.tp ht) (fun μ' g1 g2 g3 g4 g5 => h μ' (hx.tr g1) g2 (by rw [g3, S_ne (by omega), S_ne (by omega)]) g4 g5)
      · rw [S_eq, h9, wid (by omega) (by omega)]; omega
      · rw [S_ne (by omega), S_ne (by omega)]; exact h7
      · rw [S_ne (by omega), S_eq, ew, show i + 1 - s = (i - s) + 1 by omega]
        unfold vl
        rw [show s + (i - s) = i by omega]
        have := v3 z9
        refine ⟨by omega, by omega, fun q1 => ?_, fun q1 => ?_⟩
        · omega
        · omega
    · rw [hb] at l1 l2
      have e : rn isD b len (n + 1) i = rn isD b len n (i + 1) := by
        conv => lhs; unfold rn
        rw [if_pos ⟨by omega, decide_eq_true ⟨l1, l2⟩⟩]
      have hx : XtM μ (mzS (mzS μ 0 10 (μ 0 10)) 0 9 (mzW (μ 0 9 + 1))) := (XtM.rf.st (by omega)).st (by omega)
      rw [e] at h
      obtain ⟨v1, v2, v3, v4⟩ := hv
      refine ih (i + 1) _ (by omega) (by omega) ?_ ?_ ?_ (hx.tp ht) (fun μ' g1 g2 g3 g4 g5 => h μ' (hx.tr g1) g2 (by rw [g3, S_ne (by omega), S_ne (by omega)]) g4 g5)
      · rw [S_eq, h9, wid (by omega) (by omega)]; omega
      · rw [S_ne (by omega), S_ne (by omega)]; exact h7
      · rw [S_ne (by omega), S_eq, show i + 1 - s = (i - s) + 1 by omega]
        unfold vl
        rw [show s + (i - s) = i by omega]
        have := v4 z9
        refine ⟨by omega, by omega, fun q1 => ?_, fun q1 => ?_⟩
        · omega
        · omega
    · rw [hb] at l0
      have e : rn isD b len (n + 1) i = i := by
        unfold rn
        rw [if_neg]
        intro c
        have := of_decide_eq_true c.2
        omega
      rw [e] at h
      exact h μ XtM.rf h7 rfl h9 hv
