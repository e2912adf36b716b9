/-! SMALL CHANGES OF A WORLD -/
def setT (w : Wd) (p t : Nat) (v : Int) : Wd := (wN w, (fun a c => if a = p ∧ c = t then v else wT w a c), w.2.2)
def setP (w : Wd) (f t : Nat) (v e : Int) : Wd := (wN w, wT w, (fun a c => if a = f ∧ c = t then v else wP w a c), e, w.2.2.2.2)
def addPu (w : Wd) (y l : Int) : Wd := (wN w, wT w, wP w, wE w, wK w + 1, (fun i => if i = wK w then y else wY w i), (fun i => if i = wK w then l else wL w i), wZ w, wS w)
def noPu (w : Wd) : Wd := (wN w, wT w, wP w, wE w, 0, wY w, wL w, wZ w, wS w)
def setZ (w : Wd) (z : Int) : Wd := (wN w, wT w, wP w, wE w, wK w, wY w, wL w, z, wS w)
def setS (w : Wd) (i : Nat) (v : Int) : Wd := (wN w, wT w, wP w, wE w, wK w, wY w, wL w, wZ w, fun a => if a = i then v else wS w a)
theorem spS_r {n : Nat} {T P : Nat → Nat → Int} {r r' : Int × Nat × (Nat → Int) × (Nat → Int) × Int × (Nat → Int)} (came : Nat) : ∀ k, spS (n, T, P, r) came k = spS (n, T, P, r') came k := by
  intro k
  induction k with
  | zero => rfl
  | succ k ih => unfold spS; rw [ih]
theorem yrS_r {n : Nat} {T P : Nat → Nat → Int} {r r' : Int × Nat × (Nat → Int) × (Nat → Int) × Int × (Nat → Int)} {H : Nat → Int} {h pu : Nat} {st : St} : yrS (n, T, P, r) H h pu st = yrS (n, T, P, r') H h pu st := by
  unfold yrS
  rw [spS_r (r' := r')]
  rfl
theorem ysS_r {n : Nat} {T P : Nat → Nat → Int} {r r' : Int × Nat × (Nat → Int) × (Nat → Int) × Int × (Nat → Int)} {H : Nat → Int} {h : Nat} {pus : Nat → Nat} {st : St} : ∀ k, ysS (n, T, P, r) H h pus k st = ysS (n, T, P, r') H h pus k st := by
  intro k
  induction k with
  | zero => rfl
  | succ k ih =>
    unfold ysS
    rw [ih]
    exact yrS_r
theorem stS_r (w w' : Wd) (h0 : w'.1 = w.1) (h1 : w'.2.1 = w.2.1) (h2 : w'.2.2.1 = w.2.2.1) (s : Nat) : stS w' (H0 w') (hw w') s = stS w (H0 w) (hw w) s := by
  obtain ⟨n, T, P, r⟩ := w
  obtain ⟨n', T', P', r'⟩ := w'
  simp only at h0 h1 h2
  subst h0 h1 h2
  unfold stS
  rw [ysS_r (r' := r)]
  rfl
theorem FR.r {μ μ' : mzM} {w w' : Wd} (h : FR μ w) (h0 : w'.1 = w.1) (h1 : w'.2.1 = w.2.1) (h2 : w'.2.2.1 = w.2.2.1) (e0 : μ' 0 4 = μ 0 4) (e8 : ∀ j, μ' 8 j = μ 8 j) : FR μ' w' := by
  unfold FR at h ⊢
  rw [e0]
  rcases h with h | ⟨h, h3⟩
  · exact Or.inl h
  · refine Or.inr ⟨h, fun s hs => ?_⟩
    rw [e8, stS_r w w' h0 h1 h2]
    have hN : wN w' = wN w := h0
    rw [hN] at hs
    exact h3 s hs
-- the reference's row of numbers
theorem MW.setT {μ : mzM} {w : Wd} {p t : Nat} {v : Int} (h : MW μ 1 w) (hN : wN w ≤ 12) (hp : p < 12) (ht : t < 10) : MW (mzS μ 1 (4 + 10 * p + t) v) 1 (setT w p t v) := by
  obtain ⟨h0, h1, h2, h3, h4, h5, h6, h7⟩ := h
  refine ⟨?_, ?_, ?_, ?_, fun p' t' hp' ht' => ?_, fun f t' hf ht' => ?_, fun i hi => ⟨?_, ?_⟩, fun i hi => ?_⟩
  · rw [S_ne (by omega)]; exact h0
  · rw [S_ne (by omega)]; exact h1
  · rw [S_ne (by omega)]; exact h2
  · rw [S_ne (by omega)]; exact h3
  · show _ = if p' = p ∧ t' = t then v else wT w p' t'
    have hp2 : p' < wN w := hp'
    by_cases e : p' = p ∧ t' = t
    · rw [if_pos e, e.1, e.2, S_eq]
    · rw [if_neg e, S_ne (by omega)]; exact h4 p' t' hp' ht'
  · rw [S_ne (by omega)]; exact h5 f t' hf ht'
  · rw [S_ne (by omega)]; exact (h6 i hi).1
  · rw [S_ne (by omega)]; exact (h6 i hi).2
  · rw [S_ne (by omega)]; exact h7 i hi
theorem MW.setP {μ : mzM} {w : Wd} {f t : Nat} {v e : Int} (h : MW μ 1 w) (hN : wN w ≤ 12) (hf : f < 12) (ht : t < 12) : MW (mzS (mzS μ 1 1 e) 1 (124 + 12 * f + t) v) 1 (setP w f t v e) := by
  obtain ⟨g0, g1, g2, g3, g4, g5, g6, g7⟩ := h
  refine ⟨?_, ?_, ?_, ?_, fun p t' hp ht' => ?_, fun f' t' hf' ht' => ?_, fun i hi => ⟨?_, ?_⟩, fun i hi => ?_⟩
  · rw [S_ne (by omega), S_ne (by omega)]; exact g0
  · rw [S_ne (by omega)]; exact S_eq
  · rw [S_ne (by omega), S_ne (by omega)]; exact g2
  · rw [S_ne (by omega), S_ne (by omega)]; exact g3
  · have hp2 : p < wN w := hp
    rw [S_ne (by omega), S_ne (by omega)]; exact g4 p t' hp ht'
  · have hf2 : f' < wN w := hf'
    have ht2 : t' < wN w := ht'
    show _ = if f' = f ∧ t' = t then v else wP w f' t'
    by_cases c : f' = f ∧ t' = t
    · rw [if_pos c, c.1, c.2, S_eq]
    · rw [if_neg c, S_ne (by omega), S_ne (by omega)]; exact g5 f' t' hf' ht'
  · rw [S_ne (by omega), S_ne (by omega)]; exact (g6 i hi).1
  · rw [S_ne (by omega), S_ne (by omega)]; exact (g6 i hi).2
  · rw [S_ne (by omega), S_ne (by omega)]; exact g7 i hi
theorem MW.addPu {μ : mzM} {w : Wd} {y l : Int} (h : MW μ 1 w) (hN : wN w ≤ 12) (hK : wK w < 20) : MW (mzS (mzS (mzS μ 1 (268 + 2 * wK w) y) 1 (268 + 2 * wK w + 1) l) 1 2 ((wK w + 1 : Nat) : Int)) 1 (addPu w y l) := by
  obtain ⟨g0, g1, g2, g3, g4, g5, g6, g7⟩ := h
  refine ⟨?_, ?_, S_eq, ?_, fun p t' hp ht' => ?_, fun f' t' hf' ht' => ?_, fun i hi => ⟨?_, ?_⟩, fun i hi => ?_⟩
  · rw [S_ne (by omega), S_ne (by omega), S_ne (by omega)]; exact g0
  · rw [S_ne (by omega), S_ne (by omega), S_ne (by omega)]; exact g1
  · rw [S_ne (by omega), S_ne (by omega), S_ne (by omega)]; exact g3
  · have hp2 : p < wN w := hp
    rw [S_ne (by omega), S_ne (by omega), S_ne (by omega)]; exact g4 p t' hp ht'
  · have hf2 : f' < wN w := hf'
    have ht2 : t' < wN w := ht'
    rw [S_ne (by omega), S_ne (by omega), S_ne (by omega)]; exact g5 f' t' hf' ht'
  · have hi2 : i < wK w + 1 := hi
    show _ = if i = wK w then y else wY w i
    by_cases c : i = wK w
    · rw [if_pos c, c, S_ne (by omega), S_ne (by omega), S_eq]
    · rw [if_neg c, S_ne (by omega), S_ne (by omega), S_ne (by omega)]; exact (g6 i (by omega)).1
  · have hi2 : i < wK w + 1 := hi
    show _ = if i = wK w then l else wL w i
    by_cases c : i = wK w
    · rw [if_pos c, c, S_ne (by omega), S_eq]
    · rw [if_neg c, S_ne (by omega), S_ne (by omega), S_ne (by omega)]; exact (g6 i (by omega)).2
  · rw [S_ne (by omega), S_ne (by omega), S_ne (by omega)]; exact g7 i hi
theorem MW.noPu {μ : mzM} {w : Wd} (h : MW μ 1 w) : MW (mzS μ 1 2 0) 1 (noPu w) := by
  obtain ⟨g0, g1, g2, g3, g4, g5, g6, g7⟩ := h
  refine ⟨?_, ?_, S_eq, ?_, fun p t' hp ht' => ?_, fun f' t' hf' ht' => ?_, fun i hi => absurd hi (Nat.not_lt_zero i), fun i hi => ?_⟩
  · rw [S_ne (by omega)]; exact g0
  · rw [S_ne (by omega)]; exact g1
  · rw [S_ne (by omega)]; exact g3
  · rw [S_ne (by omega)]; exact g4 p t' hp ht'
  · rw [S_ne (by omega)]; exact g5 f' t' hf' ht'
  · rw [S_ne (by omega)]; exact g7 i hi
theorem MW.setZ {μ : mzM} {w : Wd} {z : Int} (h : MW μ 1 w) : MW (mzS μ 1 3 z) 1 (setZ w z) := by
  obtain ⟨g0, g1, g2, g3, g4, g5, g6, g7⟩ := h
  refine ⟨?_, ?_, ?_, S_eq, fun p t' hp ht' => ?_, fun f' t' hf' ht' => ?_, fun i hi => ⟨?_, ?_⟩, fun i hi => ?_⟩
  · rw [S_ne (by omega)]; exact g0
  · rw [S_ne (by omega)]; exact g1
  · rw [S_ne (by omega)]; exact g2
  · rw [S_ne (by omega)]; exact g4 p t' hp ht'
  · rw [S_ne (by omega)]; exact g5 f' t' hf' ht'
  · rw [S_ne (by omega)]; exact (g6 i hi).1
  · rw [S_ne (by omega)]; exact (g6 i hi).2
  · rw [S_ne (by omega)]; exact g7 i hi
theorem MW.setS {μ : mzM} {w : Wd} {i : Nat} {v : Int} (h : MW μ 1 w) (hN : wN w ≤ 12) (hK : wK w ≤ 20) : MW (mzS μ 1 (308 + i) v) 1 (setS w i v) := by
  obtain ⟨g0, g1, g2, g3, g4, g5, g6, g7⟩ := h
  refine ⟨?_, ?_, ?_, ?_, fun p t' hp ht' => ?_, fun f' t' hf' ht' => ?_, fun a ha => ⟨?_, ?_⟩, fun a ha => ?_⟩
  · rw [S_ne (by omega)]; exact g0
  · rw [S_ne (by omega)]; exact g1
  · rw [S_ne (by omega)]; exact g2
  · rw [S_ne (by omega)]; exact g3
  · have hp2 : p < wN w := hp
    rw [S_ne (by omega)]; exact g4 p t' hp ht'
  · have hf2 : f' < wN w := hf'
    have ht2 : t' < wN w := ht'
    rw [S_ne (by omega)]; exact g5 f' t' hf' ht'
  · have ha2 : a < wK w := ha
    rw [S_ne (by omega)]; exact (g6 a ha).1
  · have ha2 : a < wK w := ha
    rw [S_ne (by omega)]; exact (g6 a ha).2
  · show _ = if a = i then v else wS w a
    by_cases c : a = i
    · rw [if_pos c, c, S_eq]
    · rw [if_neg c, S_ne (by omega)]; exact g7 a ha
-- the class's world
theorem CW.setT {μ : mzM} {w : Wd} {p t : Nat} {v : Int} (h : CW μ 0 w) (hN : wN w ≤ 12) (hp : p < 12) (ht : t < 9) : CW (mzS μ (52 + p) t v) 0 (setT w p t v) := by
  obtain ⟨h0, h1, h2, h3, h4, h5, h6, h7, h8⟩ := h
  refine ⟨?_, ?_, ?_, ?_, ?_, fun p' t' hp' ht' => ?_, fun f t' hf ht' => ?_, fun i hi => ⟨?_, ?_⟩, fun i hi => ?_⟩
  · rw [S_ne (by omega)]; exact h0
  · rw [S_ne (by omega)]; exact h1
  · rw [S_ne (by omega)]; exact h2
  · rw [S_ne (by omega), h3]
    exact congrArg _ (hB_cg (fun a ha => by show wT w a 9 = if a = p ∧ 9 = t then v else wT w a 9; rw [if_neg (by omega)]))
  · rw [S_ne (by omega)]; exact h4
  · have hp2 : p' < wN w := hp'
    show _ = if p' = p ∧ t' = t then v else wT w p' t'
    by_cases c : p' = p ∧ t' = t
    · rw [if_pos c, c.1, c.2, show 52 + 12 * 0 + p = 52 + p by omega, S_eq]
    · rw [if_neg c, S_ne (by omega)]; exact h5 p' t' hp' ht'
  · rw [S_ne (by omega)]; exact h6 f t' hf ht'
  · rw [S_ne (by omega)]; exact (h7 i hi).1
  · rw [S_ne (by omega)]; exact (h7 i hi).2
  · rw [S_ne (by omega)]; exact h8 i hi
theorem CW.setP {μ : mzM} {w : Wd} {f t : Nat} {v e : Int} (h : CW μ 0 w) (hN : wN w ≤ 12) (hf : f < 12) : CW (mzS (mzS μ 26 1 e) (88 + f) t v) 0 (setP w f t v e) := by
  obtain ⟨h0, h1, h2, h3, h4, h5, h6, h7, h8⟩ := h
  refine ⟨?_, ?_, ?_, ?_, ?_, fun p' t' hp' ht' => ?_, fun f' t' hf' ht' => ?_, fun i hi => ⟨?_, ?_⟩, fun i hi => ?_⟩
  · rw [S_ne (by omega), S_ne (by omega)]; exact h0
  · rw [S_ne (by omega)]; exact S_eq
  · rw [S_ne (by omega), S_ne (by omega)]; exact h2
  · rw [S_ne (by omega), S_ne (by omega)]; exact h3
  · rw [S_ne (by omega), S_ne (by omega)]; exact h4
  · have hp2 : p' < wN w := hp'
    rw [S_ne (by omega), S_ne (by omega)]; exact h5 p' t' hp' ht'
  · show _ = if f' = f ∧ t' = t then v else wP w f' t'
    by_cases c : f' = f ∧ t' = t
    · rw [if_pos c, c.1, c.2, show 88 + 12 * 0 + f = 88 + f by omega, S_eq]
    · rw [if_neg c, S_ne (by omega), S_ne (by omega)]; exact h6 f' t' hf' ht'
  · rw [S_ne (by omega), S_ne (by omega)]; exact (h7 i hi).1
  · rw [S_ne (by omega), S_ne (by omega)]; exact (h7 i hi).2
  · rw [S_ne (by omega), S_ne (by omega)]; exact h8 i hi
/-- one number of the world's own, or one of its rows, is another -/
theorem CW.put {μ : mzM} {w w' : Wd} {k j : Nat} {v : Int} (h : CW μ 0 w) (hk : k = 26 ∨ k = 35 ∨ k = 38 ∨ k = 41) (h0 : mzS μ k j v 26 0 = wN w') (h1 : mzS μ k j v 26 1 = wE w') (h2 : mzS μ k j v 26 2 = wK w') (h3 : mzS μ k j v 26 3 = (hB (wT w') (wN w') : Nat)) (h4 : mzS μ k j v 26 4 = wZ w')
    (hN : wN w' = wN w) (hN12 : wN w ≤ 12) (hT : ∀ p t, t < 9 → wT w' p t = wT w p t) (hP : ∀ f t, wP w' f t = wP w f t) (h7 : ∀ i, i < wK w' → mzS μ k j v 35 i = wY w' i ∧ mzS μ k j v 38 i = wL w' i) (h8 : ∀ i, i < 10 → mzS μ k j v 41 i = wS w' i) : CW (mzS μ k j v) 0 w' := by
  obtain ⟨-, -, -, -, -, g5, g6, -, -⟩ := h
  refine ⟨h0, h1, h2, h3, h4, fun p t hp ht => ?_, fun f t hf ht => ?_, h7, h8⟩
  · rw [hN] at hp
    rw [S_ne (by omega), hT p t ht]; exact g5 p t hp ht
  · rw [S_ne (by omega), hP]; exact g6 f t hf ht
