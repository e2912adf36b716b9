/-! WORLDS: the value that both sides hold -/
/-- places; traits (9: held); parts; ties; pushes: how many, years, places; z; spots -/
abbrev Wd : Type := Nat × (Nat → Nat → Int) × (Nat → Nat → Int) × Int × Nat × (Nat → Int) × (Nat → Int) × Int × (Nat → Int)
abbrev wN (w : Wd) : Nat := w.1
abbrev wT (w : Wd) : Nat → Nat → Int := w.2.1
abbrev wP (w : Wd) : Nat → Nat → Int := w.2.2.1
abbrev wE (w : Wd) : Int := w.2.2.2.1
abbrev wK (w : Wd) : Nat := w.2.2.2.2.1
abbrev wY (w : Wd) : Nat → Int := w.2.2.2.2.2.1
abbrev wL (w : Wd) : Nat → Int := w.2.2.2.2.2.2.1
abbrev wZ (w : Wd) : Int := w.2.2.2.2.2.2.2.1
abbrev wS (w : Wd) : Nat → Int := w.2.2.2.2.2.2.2.2
/-- the reference's array a holds w -/
def MW (μ : mzM) (a : Nat) (w : Wd) : Prop := μ a 0 = wN w ∧ μ a 1 = wE w ∧ μ a 2 = wK w ∧ μ a 3 = wZ w ∧ (∀ p t, p < wN w → t < 10 → μ a (4 + 10 * p + t) = wT w p t) ∧ (∀ f t, f < wN w → t < wN w → μ a (124 + 12 * f + t) = wP w f t) ∧ (∀ i, i < wK w → μ a (268 + 2 * i) = wY w i ∧ μ a (268 + 2 * i + 1) = wL w i) ∧ (∀ i, i < 10 → μ a (308 + i) = wS w i)
theorem MW.cg {μ μ' : mzM} {a : Nat} {w : Wd} (h : MW μ a w) (e : ∀ j, μ' a j = μ a j) : MW μ' a w := by
  unfold MW at h ⊢
  simp only [e]
  exact h
def row0 (k v : Int) : Nat → Int := fun t => if t = 0 then k else if t = 1 then v else if t = 4 then 1 else if t = 5 then 1 else if t = 7 then -1 else 0
def addW (w : Wd) (r : Nat → Int) : Wd := (wN w + 1, (fun p => if p = wN w then r else wT w p), (fun f t => if f = wN w ∨ t = wN w then 0 else wP w f t), w.2.2.2)
def tieW (w : Wd) (f t : Nat) (v : Int) : Wd := (wN w, wT w, (fun a c => if a = f ∧ c = t then v else wP w a c), wE w + 1, w.2.2.2.2)
/-- which trait a word tells -/
def td (b : Nat → Int) (t : TT) : Option Nat := if isWd b t 9 then some 2 else if isWd b t 10 then some 3 else if isWd b t 11 then some 4 else if isWd b t 12 then some 5 else if isWd b t 13 then some 6 else none
def lo (t : Nat) : Nat := if t = 4 ∨ t = 5 then 1 else 0
def hi (t : Nat) : Nat := if t = 3 then 9 else if t = 6 then 10 else 99
/-- what may stand behind a kind and its number -/
def opS (b : Nat → Int) (len : Nat) : Nat → Nat → (Nat → Int) → Bool × Nat × (Nat → Int)
  | 0, p, r => (false, p, r)
  | f + 1, p, r => match td b (tk b len p) with
    | none => (true, p, r)
    | some tr => if (tk b len (tk b len p).2.2.1).1 = 2 ∧ lo tr ≤ (tk b len (tk b len p).2.2.1).2.2.2 ∧ (tk b len (tk b len p).2.2.1).2.2.2 ≤ hi tr then
        opS b len f (tk b len (tk b len p).2.2.1).2.2.1 (fun t => if t = tr then ((tk b len (tk b len p).2.2.1).2.2.2 : Int) else r t)
      else (false, (tk b len p).2.2.1, r)
def plS (b : Nat → Int) (len : Nat) (w : Wd) (p : Nat) : Bool × Nat × Wd := match kd b (tk b len p) with
  | none => (false, p, w)
  | some k => if wN w = 12 then (false, p, w) else if (tk b len (tk b len p).2.2.1).1 = 2 ∧ 1 ≤ (tk b len (tk b len p).2.2.1).2.2.2 ∧ (tk b len (tk b len p).2.2.1).2.2.2 ≤ 99 then
      ((opS b len 121 (tk b len (tk b len p).2.2.1).2.2.1 (row0 k (tk b len (tk b len p).2.2.1).2.2.2)).1, (opS b len 121 (tk b len (tk b len p).2.2.1).2.2.1 (row0 k (tk b len (tk b len p).2.2.1).2.2.2)).2.1, addW w (opS b len 121 (tk b len (tk b len p).2.2.1).2.2.1 (row0 k (tk b len (tk b len p).2.2.1).2.2.2)).2.2)
    else (false, (tk b len p).2.2.1, w)
-- the reference: text and array
def XpM (μ μ' : mzM) : Prop := ∀ k j, (k ≠ 0 ∨ j < 7 ∨ 11 < j) → k ≠ 1 → μ' k j = μ k j
theorem XpM.rf {μ : mzM} : XpM μ μ := fun _ _ _ _ => rfl
theorem XpM.tr {μ μ' μ'' : mzM} (h : XpM μ μ') (h2 : XpM μ' μ'') : XpM μ μ'' := fun a b h1 hn => (h2 a b h1 hn).trans (h a b h1 hn)
theorem XpM.st {μ μ' : mzM} {j : Nat} {v : Int} (h : XpM μ μ') (hj : 7 ≤ j ∧ j ≤ 11) : XpM μ (mzS μ' 0 j v) := fun a b h1 hn => by
  rw [S_ne (by omega)]
  exact h a b h1 hn
theorem XpM.st1 {μ μ' : mzM} {j : Nat} {v : Int} (h : XpM μ μ') : XpM μ (mzS μ' 1 j v) := fun a b h1 hn => by
  rw [S_ne (by omega)]
  exact h a b h1 hn
theorem XpM.tp {μ μ' : mzM} {b : Nat → Int} {len : Nat} (h : XpM μ μ') (ht : TpM μ b len) : TpM μ' b len := ⟨by rw [h 0 6 (by omega) (by omega)]; exact ht.1, fun i hi => by rw [h 4 i (by omega) (by omega)]; exact ht.2 i hi⟩
theorem XtM.p {μ μ' : mzM} (h : XtM μ μ') : XpM μ μ' := fun k j h1 h2 => h k j (by omega)
theorem XtM.m {μ μ' : mzM} (h : XtM μ μ') (j : Nat) : μ' 1 j = μ 1 j := h 1 j (by omega)
theorem XtM.bad {μ μ' : mzM} (h : XtM μ μ') : μ' 0 11 = μ 0 11 := h 0 11 (by omega)
theorem TkM'.st {μ : mzM} {t : TT} {k j : Nat} {v : Int} (h : TkM' μ t) (hj : k ≠ 0 ∨ 10 < j) : TkM' (mzS μ k j v) t := by
  unfold TkM' at h ⊢
  rw [S_ne (by omega), S_ne (by omega), S_ne (by omega), S_ne (by omega)]
  exact h
theorem c_takes {d : Nat} {q : Int → mzM → Prop} {b : Nat → Int} {len : Nat} {t : TT} {o : Nat} {μ : mzM} (ho : o < 14) (hl : len ≤ 120) (ht : TpM μ b len) (hk : TkM' μ t) (hse : t.2.1 ≤ t.2.2.1) (hel : t.2.2.1 ≤ len) (hb : μ 0 11 = 0)
    (h1 : isWd b t o = true → ∀ μ', XtM μ μ' → TkM' μ' (tk b len t.2.2.1) → q 1 μ') (h0 : isWd b t o = false → q 0 μ) : mzCl (d + 3) 15 [mzR 0, mzP 300 o] μ (mzQi q) :=
  g15_e _ _ (c_isWord ho hl ht hk hse hel hb (fun w => ⟨fun _ => c_next hl hel hk.2.2.1 ht (fun μ' x1 x2 => ⟨or10, h1 w μ' x1 x2⟩), fun z => absurd z (by decide)⟩) (fun w => ⟨fun z => absurd rfl z, fun _ => ⟨or00, h0 w⟩⟩))
theorem c_number {d : Nat} {q : Int → mzM → Prop} {b : Nat → Int} {len : Nat} {t : TT} {l1 h2 : Int} {μ : mzM} (hl : len ≤ 120) (ht : TpM μ b len) (hk : TkM' μ t) (hel : t.2.2.1 ≤ len) (hb : μ 0 11 = 0) (hlo : 0 ≤ l1 ∧ l1 ≤ 9999) (hhi : h2 ≤ 9999)
    (h1 : t.1 = 2 → l1 ≤ (t.2.2.2 : Int) → (t.2.2.2 : Int) ≤ h2 → ∀ μ', XtM (mzS μ 0 11 0) μ' → TkM' μ' (tk b len t.2.2.1) → q t.2.2.2 μ') (h0 : ¬ (t.1 = 2 ∧ l1 ≤ (t.2.2.2 : Int) ∧ (t.2.2.2 : Int) ≤ h2) → ∀ v, q v (mzS μ 0 11 1)) : mzCl (d + 3) 16 [mzR 0, mzI l1, mzI h2] μ (mzQi q) := by
  have no : ¬ (t.1 = 2 ∧ l1 ≤ (t.2.2.2 : Int) ∧ (t.2.2.2 : Int) ≤ h2) → ((1 : Int) ≠ 0 → q (μ 0 10) (mzS μ 0 11 1)) ∧ ((1 : Int) = 0 → mzCl (d + 2) 13 [mzR 0] (mzS μ 0 11 1) (mzQv fun m1 => q (μ 0 10) m1)) := fun c => ⟨fun _ => h0 c _, fun z => absurd z (by decide)⟩
  refine g16_e _ _ _ ⟨fun z => absurd hb z, fun _ => ⟨fun z => ⟨or10, no (fun c => z (by rw [hk.1, c.1]; rfl))⟩, fun z => ?_⟩⟩
  have e2 : t.1 = 2 := by rw [hk.1] at z; omega
  obtain ⟨v1, v2, v3, v4⟩ := hk.2.2.2 e2
  refine c_in (fun z1 z2 => ⟨fun _ => ⟨or00, fun z => absurd rfl z, fun _ => ?_⟩, fun z => absurd z (by decide)⟩) (fun z => ⟨fun z => absurd rfl z, fun _ => ⟨or10, no (fun c => ?_)⟩⟩)
  · have ev := v3 (by omega)
    rw [← ev]
    have x1 : TpM (mzS μ 0 11 0) b len := ⟨by rw [S_ne (by omega)]; exact ht.1, fun i hi => by rw [S_ne (by omega)]; exact ht.2 i hi⟩
    exact c_next hl hel (by rw [S_ne (by omega)]; exact hk.2.2.1) x1 (fun μ' y1 y2 => h1 e2 (by omega) (by omega) μ' y1 y2)
  · by_cases c9 : μ 0 10 ≤ 9999
    · have := v3 c9
      omega
    · have := v4 (by omega)
      omega
