theorem tk_0 {b : Nat → Int} {len pos : Nat} (h : ¬ rn isB b len (len - pos) pos < len) : tk b len pos = (0, rn isB b len (len - pos) pos, rn isB b len (len - pos) pos, 0) := by
  unfold tk
  simp only [h, if_false]
theorem tk_1 {b : Nat → Int} {len pos s : Nat} (hs : rn isB b len (len - pos) pos = s) (h : s < len) (hL : isL (b s) = true) : tk b len pos = (1, s, rn isL b len (len - s) s, 0) := by
  unfold tk
  simp only [hs, h, if_true, hL]
theorem tk_2 {b : Nat → Int} {len pos s : Nat} (hs : rn isB b len (len - pos) pos = s) (h : s < len) (hL : isL (b s) = false) (hD : isD (b s) = true) : tk b len pos = (2, s, rn isD b len (len - s) s, vl b s (rn isD b len (len - s) s - s)) := by
  unfold tk
  simp [hs, h, hL, hD]
theorem tk_3 {b : Nat → Int} {len pos s : Nat} (hs : rn isB b len (len - pos) pos = s) (h : s < len) (hL : isL (b s) = false) (hD : isD (b s) = false) (h9 : b s = 59) : tk b len pos = (3, s, s + 1, 0) := by
  unfold tk
  rw [h9] at hL hD
  simp [hs, h, hL, hD, h9]
theorem tk_4 {b : Nat → Int} {len pos s : Nat} (hs : rn isB b len (len - pos) pos = s) (h : s < len) (hL : isL (b s) = false) (hD : isD (b s) = false) (h9 : b s ≠ 59) : tk b len pos = (4, s, s + 1, 0) := by
  unfold tk
  simp [hs, h, hL, hD, h9]
theorem isL_t {x : Int} (h1 : 97 ≤ x) (h2 : x ≤ 122) : isL x = true := decide_eq_true ⟨h1, h2⟩
theorem isL_f {x : Int} (h : x < 97 ∨ 122 < x) : isL x = false := decide_eq_false (by omega)
theorem isD_t {x : Int} (h1 : 48 ≤ x) (h2 : x ≤ 57) : isD x = true := decide_eq_true ⟨h1, h2⟩
theorem isD_f {x : Int} (h : x < 48 ∨ 57 < x) : isD x = false := decide_eq_false (by omega)
/-- the token that the reference holds -/
def TkM' (μ : mzM) (t : Nat × Nat × Nat × Nat) : Prop := μ 0 7 = t.1 ∧ μ 0 8 = t.2.1 ∧ μ 0 9 = t.2.2.1 ∧ (t.1 = 2 → vrel (μ 0 10) t.2.2.2)
theorem c_next {d : Nat} {q : mzM → Prop} {b : Nat → Int} {len pos : Nat} {μ : mzM} (hl : len ≤ 120) (hp : pos ≤ len) (h9 : μ 0 9 = pos) (ht : TpM μ b len) (h : ∀ μ', XtM μ μ' → TkM' μ' (tk b len pos) → q μ') : mzCl (d + 2) 13 [mzR 0] μ (mzQv q) := by
  have hx0 : XtM μ (mzS μ 0 8 (μ 0 9)) := XtM.rf.st (by omega)
  refine g13_e _ (nx_skip hl (len - pos) pos _ (by omega) (by rw [S_eq]; exact h9) (hx0.tp ht) (fun μ1 x1 e8 => ?_))
  have hx1 := hx0.tr x1
  have t1 := hx1.tp ht
  generalize hs : rn isB b len (len - pos) pos = s at e8
  have hsl : s ≤ len := by rw [← hs]; exact rn_le _ _ _ _ _ hp
  refine g13_46 _ ⟨fun z => ⟨?_, ?_⟩, fun z => ?_⟩
  · rw [e8, t1.1] at z
    rw [e8]
    omega
  · rw [e8, t1.1] at z
    have hlt : s < len := by omega
    have hb : μ1 4 (μ1 0 8).toNat = b s := by rw [e8, Int.toNat_natCast]; exact t1.2 s hlt
    rw [hb]
    have x2 : XtM μ1 (mzS (mzS μ1 0 9 (μ1 0 8)) 0 10 0) := (XtM.rf.st (by omega)).st (by omega)
    have r8 : (mzS (mzS μ1 0 9 (μ1 0 8)) 0 10 0) 0 8 = s := by rw [S_ne (by omega), S_ne (by omega)]; exact e8
    have r9 : (mzS (mzS μ1 0 9 (μ1 0 8)) 0 10 0) 0 9 = s := by rw [S_ne (by omega), S_eq]; exact e8
    have r10 : (mzS (mzS μ1 0 9 (μ1 0 8)) 0 10 0) 0 10 = 0 := S_eq
    generalize mzS (mzS μ1 0 9 (μ1 0 8)) 0 10 0 = μ2 at x2 r8 r9 r10
    have hx2 := hx1.tr x2
    have t2 := hx2.tp ht
    refine c_isLetter (fun l1 l2 => ⟨fun z => absurd z (by decide), fun _ => ⟨fun _ => ?_, fun z => absurd z (by decide)⟩⟩) (fun l0 => ⟨fun _ => ?_, fun z => absurd rfl z⟩)
    · have x3 : XtM μ2 (mzS μ2 0 7 1) := XtM.rf.st (by omega)
      refine nx_word hl (len - s) s _ (by omega) (by rw [S_ne (by omega)]; exact r9) S_eq (x3.tp t2) (fun μ' y1 y2 y3 y4 => h μ' ((hx2.tr x3).tr y1) ?_)
      rw [tk_1 hs hlt (isL_t l1 l2)]
      exact ⟨y2, by rw [y3, S_ne (by omega)]; exact r8, y4, fun z => by simp at z⟩
    · refine c_isDigit (fun k1 k2 => ⟨fun z => absurd z (by decide), fun _ => ⟨fun _ => ?_, fun z => absurd z (by decide)⟩⟩) (fun k0 => ⟨fun _ => ⟨fun c9 => ⟨fun z => absurd z (by decide), fun _ => ?_⟩, fun c9 => ⟨fun z => absurd z (by decide), fun _ => ?_⟩⟩, fun z => absurd rfl z⟩)
      · have x3 : XtM μ2 (mzS μ2 0 7 2) := XtM.rf.st (by omega)
        have f2 : (mzS μ2 0 7 2) 0 7 = 2 := S_eq
        refine g13_141 _ ⟨fun _ => ?_, fun z => by rw [f2] at z; omega⟩
        refine nx_num hl (len - s) s _ (s := s) (by omega) (Nat.le_refl _) (by rw [S_ne (by omega)]; exact r9) f2 ?_ (x3.tp t2) (fun μ' y1 y2 y3 y4 y5 => h μ' ((hx2.tr x3).tr y1) ?_)
        · rw [S_ne (by omega), r10, Nat.sub_self]
          exact ⟨by omega, by omega, fun _ => rfl, fun z => by omega⟩
        · rw [tk_2 hs hlt (isL_f l0) (isD_t k1 k2)]
          exact ⟨y2, by rw [y3, S_ne (by omega)]; exact r8, y4, fun _ => y5⟩
      · have x3 : XtM μ2 (mzS (mzS μ2 0 7 4) 0 9 (mzW (μ2 0 9 + 1))) := (XtM.rf.st (by omega)).st (by omega)
        have f7 : (mzS (mzS μ2 0 7 4) 0 9 (mzW (μ2 0 9 + 1))) 0 7 = 4 := by rw [S_ne (by omega), S_eq]
        refine g13_141 _ ⟨fun _ => g13_188 _ ⟨fun _ => h _ (hx2.tr x3) ?_, fun z => by rw [f7] at z; omega⟩, fun z => by rw [f7] at z; omega⟩
        rw [tk_4 hs hlt (isL_f l0) (isD_f k0) c9]
        refine ⟨f7, by rw [S_ne (by omega), S_ne (by omega)]; exact r8, ?_, fun z => by simp at z⟩
        rw [S_eq, r9, wid (by omega) (by omega)]; rfl
      · have x3 : XtM μ2 (mzS (mzS μ2 0 7 3) 0 9 (mzW (μ2 0 9 + 1))) := (XtM.rf.st (by omega)).st (by omega)
        have f7 : (mzS (mzS μ2 0 7 3) 0 9 (mzW (μ2 0 9 + 1))) 0 7 = 3 := by rw [S_ne (by omega), S_eq]
        refine g13_141 _ ⟨fun _ => g13_188 _ ⟨fun _ => h _ (hx2.tr x3) ?_, fun z => by rw [f7] at z; omega⟩, fun z => by rw [f7] at z; omega⟩
        rw [tk_3 hs hlt (isL_f l0) (isD_f k0) c9]
        refine ⟨f7, by rw [S_ne (by omega), S_ne (by omega)]; exact r8, ?_, fun z => by simp at z⟩
        rw [S_eq, r9, wid (by omega) (by omega)]; rfl
  · rw [e8, t1.1] at z
    have hse : ¬ rn isB b len (len - pos) pos < len := by rw [hs]; omega
    refine h _ (((hx1.st (j := 9) (by omega)).st (j := 10) (by omega)).st (j := 7) (by omega)) ?_
    rw [tk_0 hse, hs]
    exact ⟨S_eq, by rw [S_ne (by omega), S_ne (by omega), S_ne (by omega)]; exact e8, by rw [S_ne (by omega), S_ne (by omega), S_eq]; exact e8, fun z => by simp at z⟩
-- the class's reader
def TpC (μ : mzM) (b : Nat → Int) (len : Nat) : Prop := μ 23 1 = len ∧ ∀ i, i < len → μ 24 i = b i
def TkC (μ : mzM) (t : Nat × Nat × Nat × Nat) : Prop := μ 23 2 = t.1 ∧ μ 23 3 = t.2.1 ∧ μ 23 4 = t.2.2.1 ∧ (t.1 = 2 → μ 23 5 = t.2.2.2)
def XtC (μ μ' : mzM) : Prop := ∀ k j, (k ≠ 23 ∨ j < 2 ∨ 5 < j) → μ' k j = μ k j
theorem XtC.rf {μ : mzM} : XtC μ μ := fun _ _ _ => rfl
theorem XtC.st {μ μ' : mzM} {j : Nat} {v : Int} (h : XtC μ μ') (hj : 2 ≤ j ∧ j ≤ 5) : XtC μ (mzS μ' 23 j v) := fun a b hab => by
  rw [S_ne (by omega)]
  exact h a b hab
theorem XtC.tp {μ μ' : mzM} {b : Nat → Int} {len : Nat} (h : XtC μ μ') (ht : TpC μ b len) : TpC μ' b len := ⟨by rw [h 23 1 (by omega)]; exact ht.1, fun i hi => by rw [h 24 i (by omega)]; exact ht.2 i hi⟩
theorem XtC.tr {μ μ' μ'' : mzM} (h : XtC μ μ') (h2 : XtC μ' μ'') : XtC μ μ'' := fun a b hab => (h2 a b hab).trans (h a b hab)
theorem k_isLetter {d : Nat} {q : Int → mzM → Prop} {a : Int} {μ : mzM} (h1 : 97 ≤ a → a ≤ 122 → q 1 μ) (h0 : a < 97 ∨ 122 < a → q 0 μ) : mzCl d 121 [mzI a] μ (mzQi q) :=
  g121_e _ _ ⟨fun z => ⟨or00, h0 (Or.inl z)⟩, fun z => ⟨fun z2 => ⟨or00, h0 (Or.inr z2)⟩, fun z2 => ⟨or10, h1 z z2⟩⟩⟩
theorem k_isDigit {d : Nat} {q : Int → mzM → Prop} {a : Int} {μ : mzM} (h1 : 48 ≤ a → a ≤ 57 → q 1 μ) (h0 : a < 48 ∨ 57 < a → q 0 μ) : mzCl d 122 [mzI a] μ (mzQi q) :=
  g122_e _ _ ⟨fun z => ⟨or00, h0 (Or.inl z)⟩, fun z => ⟨fun z2 => ⟨or00, h0 (Or.inr z2)⟩, fun z2 => ⟨or10, h1 z z2⟩⟩⟩
theorem kx_skip {d : Nat} {q : mzM → Prop} {b : Nat → Int} {len : Nat} (hl : len ≤ 120) : ∀ (n i : Nat) (μ : mzM), i + n = len → μ 23 3 = i → TpC μ b len → (∀ μ', XtC μ μ' → μ' 23 3 = rn isB b len n i → mzWp (d + 1) 119 46 [mzR 23] [] μ' (mzQv q)) → mzWp (d + 1) 119 8 [mzR 23] [] μ (mzQv q) := by
  intro n
  induction n with
  | zero =>
    intro i μ hi h8 ht h
    refine g119_8 _ ⟨fun _ => h μ XtC.rf h8, fun z => ?_⟩
    rw [h8, ht.1] at z
    omega
  | succ n ih =>
    intro i μ hi h8 ht h
    refine g119_8 _ ⟨fun z => ?_, fun z => ⟨?_, fun z2 => ?_, fun z2 => ?_⟩⟩
    · rw [h8, ht.1] at z
      omega
    · rw [h8]; omega
    · refine h μ XtC.rf ?_
      rw [h8, Int.toNat_natCast, ht.2 i (by omega)] at z2
      have e : rn isB b len (n + 1) i = i := by
        unfold rn
        rw [if_neg]
        intro c
        have := of_decide_eq_true c.2
        exact z2 this
      rw [h8, e]
    · rw [h8, Int.toNat_natCast, ht.2 i (by omega)] at z2
      have hx : XtC μ (mzS μ 23 3 (mzW (μ 23 3 + 1))) := XtC.rf.st (by omega)
      refine ih (i + 1) _ (by omega) ?_ (hx.tp ht) (fun μ' h1 h2 => h μ' (hx.tr h1) ?_)
      · rw [S_eq, h8, wid (by omega) (by omega)]; omega
      · rw [h2]
        conv => rhs; unfold rn
        rw [if_pos ⟨by omega, decide_eq_true z2⟩]
theorem kx_word {d : Nat} {q : mzM → Prop} {b : Nat → Int} {len : Nat} (hl : len ≤ 120) : ∀ (n i : Nat) (μ : mzM), i + n = len → μ 23 4 = i → TpC μ b len → (∀ μ', XtC μ μ' → μ' 23 2 = μ 23 2 → μ' 23 3 = μ 23 3 → μ' 23 4 = rn isL b len n i → q μ') → mzWp (d + 1) 119 93 [mzR 23] [] μ (mzQv q) := by
  intro n
  induction n with
  | zero =>
    intro i μ hi h9 ht h
    refine g119_93 _ ⟨fun _ => h μ XtC.rf rfl rfl h9, fun z => ?_⟩
    rw [h9, ht.1] at z
    omega
  | succ n ih =>
    intro i μ hi h9 ht h
    refine g119_93 _ ⟨fun z => ?_, fun z => ⟨?_, k_isLetter (fun l1 l2 => ⟨fun z => absurd z (by decide), fun _ => ?_⟩) (fun l0 => ⟨fun _ => ?_, fun z => absurd rfl z⟩)⟩⟩
    · rw [h9, ht.1] at z
      omega
    · rw [h9]; omega
    · have hx : XtC μ (mzS μ 23 4 (mzW (μ 23 4 + 1))) := XtC.rf.st (by omega)
      rw [h9, Int.toNat_natCast, ht.2 i (by omega)] at l1 l2
      refine ih (i + 1) _ (by omega) ?_ (hx.tp ht) (fun μ' h1 h2 h3 h4 => h μ' (hx.tr h1) (by rw [h2, S_ne (by omega)]) (by rw [h3, S_ne (by omega)]) ?_)
      · rw [S_eq, h9, wid (by omega) (by omega)]; omega
      · rw [h4]
        conv => rhs; unfold rn
        rw [if_pos ⟨by omega, decide_eq_true ⟨l1, l2⟩⟩]
    · rw [h9, Int.toNat_natCast, ht.2 i (by omega)] at l0
      refine h μ XtC.rf rfl rfl ?_
      unfold rn
      rw [if_neg]
      · exact h9
      · intro c
        have := of_decide_eq_true c.2
        omega
theorem kx_num {d : Nat} {q : mzM → Prop} {b : Nat → Int} {len s : Nat} (hl : len ≤ 120) : ∀ (n i : Nat) (μ : mzM), i + n = len → s ≤ i → μ 23 4 = i → μ 23 5 = vl b s (i - s) → TpC μ b len → (∀ μ', XtC μ μ' → μ' 23 2 = μ 23 2 → μ' 23 3 = μ 23 3 → μ' 23 4 = rn isD b len n i → μ' 23 5 = vl b s (rn isD b len n i - s) → q μ') → mzWp (d + 1) 120 5 [mzR 23] [] μ (mzQv q) := by
  intro n
  induction n with
  | zero =>
    intro i μ hi hs h9 hv ht h
    refine g120_5 _ ⟨fun _ => h μ XtC.rf rfl rfl h9 hv, fun z => ?_⟩
    rw [h9, ht.1] at z
    omega
  | succ n ih =>
    intro i μ hi hs h9 hv ht h
    have hb : μ 24 (μ 23 4).toNat = b i := by rw [h9, Int.toNat_natCast]; exact ht.2 i (by omega)
    refine g120_5 _ ⟨fun z => ?_, fun z => ⟨?_, k_isDigit (fun l1 l2 => ⟨fun z => absurd z (by decide), fun _ => ⟨?_, ?_⟩⟩) (fun l0 => ⟨fun _ => ?_, fun z => absurd rfl z⟩)⟩⟩
    · rw [h9, ht.1] at z
      omega
    · rw [h9]; omega
    · rw [h9]; omega
    · rw [hb] at l1 l2 ⊢
      have e : rn isD b len (n + 1) i = rn isD b len n (i + 1) := by
        conv => lhs; unfold rn
        rw [if_pos ⟨by omega, decide_eq_true ⟨l1, l2⟩⟩]
      have hx : XtC μ (mzS (mzS μ 23 5 (mzMn 10000 (mzW (mzW (mzW (μ 23 5 * 10) + b i) - 48)))) 23 4 (mzW (μ 23 4 + 1))) := (XtC.rf.st (by omega)).st (by omega)
      rw [e] at h
      have hle := vl_le b s (i - s)
      have ew : mzW (mzW (mzW (μ 23 5 * 10) + b i) - 48) = μ 23 5 * 10 + b i - 48 := by unfold mzW; omega
      refine ih (i + 1) _ (by omega) (by omega) ?_ ?_ (hx.tp ht) (fun μ' g1 g2 g3 g4 g5 => h μ' (hx.tr g1) (by rw [g2, S_ne (by omega), S_ne (by omega)]) (by rw [g3, S_ne (by omega), S_ne (by omega)]) g4 g5)
      · rw [S_eq, h9, wid (by omega) (by omega)]; omega
      · rw [S_ne (by omega), S_eq, ew, show i + 1 - s = (i - s) + 1 by omega]
        unfold vl mzMn
        rw [show s + (i - s) = i by omega, hv]
        split <;> omega
    · rw [hb] at l0
      have e : rn isD b len (n + 1) i = i := by
        unfold rn
        rw [if_neg]
        intro c
        have := of_decide_eq_true c.2
        omega
      rw [e] at h
      exact h μ XtC.rf rfl rfl h9 hv
theorem k_next {d : Nat} {q : mzM → Prop} {b : Nat → Int} {len pos : Nat} {μ : mzM} (hl : len ≤ 120) (hp : pos ≤ len) (h9 : μ 23 4 = pos) (ht : TpC μ b len) (h : ∀ μ', XtC μ μ' → TkC μ' (tk b len pos) → q μ') : mzCl (d + 2) 119 [mzR 23] μ (mzQv q) := by
  have hx0 : XtC μ (mzS μ 23 3 (μ 23 4)) := XtC.rf.st (by omega)
  refine g119_e _ (kx_skip hl (len - pos) pos _ (by omega) (by rw [S_eq]; exact h9) (hx0.tp ht) (fun μ1 x1 e8 => ?_))
  have hx1 := hx0.tr x1
  have t1 := hx1.tp ht
  generalize hs : rn isB b len (len - pos) pos = s at e8
  have hsl : s ≤ len := by rw [← hs]; exact rn_le _ _ _ _ _ hp
  refine g119_46 _ ⟨fun z => ⟨?_, ?_⟩, fun z => ?_⟩
  · rw [e8, t1.1] at z
    rw [e8]
    omega
  · rw [e8, t1.1] at z
    have hlt : s < len := by omega
    have hb : μ1 24 (μ1 23 3).toNat = b s := by rw [e8, Int.toNat_natCast]; exact t1.2 s hlt
    rw [hb]
    have x2 : XtC μ1 (mzS μ1 23 4 (μ1 23 3)) := XtC.rf.st (by omega)
    have r8 : (mzS μ1 23 4 (μ1 23 3)) 23 3 = s := by rw [S_ne (by omega)]; exact e8
    have r9 : (mzS μ1 23 4 (μ1 23 3)) 23 4 = s := by rw [S_eq]; exact e8
    generalize mzS μ1 23 4 (μ1 23 3) = μ2 at x2 r8 r9
    have hx2 := hx1.tr x2
    have t2 := hx2.tp ht
    have hb2 : μ2 24 (μ2 23 3).toNat = b s := by rw [r8, Int.toNat_natCast]; exact t2.2 s hlt
    refine k_isLetter (fun l1 l2 => ⟨fun z => absurd z (by decide), fun _ => ?_⟩) (fun l0 => ⟨fun _ => ⟨by rw [r8]; omega, ?_⟩, fun z => absurd rfl z⟩)
    · have x3 : XtC μ2 (mzS μ2 23 2 1) := XtC.rf.st (by omega)
      refine kx_word hl (len - s) s _ (by omega) (by rw [S_ne (by omega)]; exact r9) (x3.tp t2) (fun μ' y1 y2 y3 y4 => h μ' ((hx2.tr x3).tr y1) ?_)
      rw [tk_1 hs hlt (isL_t l1 l2)]
      exact ⟨by rw [y2, S_eq]; rfl, by rw [y3, S_ne (by omega)]; exact r8, y4, fun z => by simp at z⟩
    · rw [hb2]
      refine k_isDigit (fun k1 k2 => ⟨fun z => absurd z (by decide), fun _ => ?_⟩) (fun k0 => ⟨fun _ => ⟨by rw [r8]; omega, fun c9 => ?_, fun c9 => ?_⟩, fun z => absurd rfl z⟩)
      · have x3 : XtC μ2 (mzS (mzS μ2 23 2 2) 23 5 0) := (XtC.rf.st (by omega)).st (by omega)
        refine g120_e _ (kx_num hl (len - s) s _ (s := s) (by omega) (Nat.le_refl _) (by rw [S_ne (by omega), S_ne (by omega)]; exact r9) (by rw [S_eq, Nat.sub_self]; rfl) (x3.tp t2) (fun μ' y1 y2 y3 y4 y5 => h μ' ((hx2.tr x3).tr y1) ?_))
        rw [tk_2 hs hlt (isL_f l0) (isD_t k1 k2)]
        exact ⟨by rw [y2, S_ne (by omega), S_eq]; rfl, by rw [y3, S_ne (by omega), S_ne (by omega)]; exact r8, y4, fun _ => y5⟩
      · rw [hb2] at c9
        refine h _ (hx2.tr ((XtC.rf.st (j := 2) (by omega)).st (j := 4) (by omega))) ?_
        rw [tk_4 hs hlt (isL_f l0) (isD_f k0) c9]
        refine ⟨by rw [S_ne (by omega), S_eq]; rfl, by rw [S_ne (by omega), S_ne (by omega)]; exact r8, ?_, fun z => by simp at z⟩
        rw [S_eq, r9, wid (by omega) (by omega)]; rfl
      · rw [hb2] at c9
        refine h _ (hx2.tr ((XtC.rf.st (j := 2) (by omega)).st (j := 4) (by omega))) ?_
        rw [tk_3 hs hlt (isL_f l0) (isD_f k0) c9]
        refine ⟨by rw [S_ne (by omega), S_eq]; rfl, by rw [S_ne (by omega), S_ne (by omega)]; exact r8, ?_, fun z => by simp at z⟩
        rw [S_eq, r9, wid (by omega) (by omega)]; rfl
  · rw [e8, t1.1] at z
    have hse : ¬ rn isB b len (len - pos) pos < len := by rw [hs]; omega
    refine h _ ((hx1.st (j := 4) (by omega)).st (j := 2) (by omega)) ?_
    rw [tk_0 hse, hs]
    exact ⟨S_eq, by rw [S_ne (by omega), S_ne (by omega)]; exact e8, by rw [S_ne (by omega), S_eq]; exact e8, fun z => by simp at z⟩
