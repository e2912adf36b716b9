/-! WHAT A WORLD KEEPS, and a text's items -/
def tlo (t : Nat) : Int := if t = 1 ∨ t = 4 ∨ t = 5 then 1 else if t = 7 then -1 else 0
def thi (n t : Nat) : Int := if t = 0 then 6 else if t = 3 then 9 else if t = 6 then 10 else if t = 7 then (n : Int) - 1 else if t = 8 then 9 else if t = 9 then 1 else 99
/-- how many of the first k are not 0 -/
def nz (g : Nat → Int) : Nat → Nat
  | 0 => 0
  | k + 1 => nz g k + if g k = 0 then 0 else 1
theorem nz_cg {g g' : Nat → Int} {k : Nat} (h : ∀ i, i < k → g i = g' i) : nz g k = nz g' k := by
  induction k with
  | zero => rfl
  | succ k ih => unfold nz; rw [ih (fun i hi => h i (by omega)), h k (by omega)]
theorem nz_set {g g' : Nat → Int} {k j : Nat} (hj : j < k) (h : ∀ i, i < k → i ≠ j → g' i = g i) : nz g' k + (if g j = 0 then 0 else 1) = nz g k + if g' j = 0 then 0 else 1 := by
  induction k with
  | zero => omega
  | succ k ih =>
    unfold nz
    by_cases e : j = k
    · subst e
      rw [nz_cg (fun i hi => h i (by omega) (by omega))]
      omega
    · have := ih (by omega) (fun i hi => h i (by omega))
      rw [h k (by omega) (by omega)]
      omega
def cP (P : Nat → Nat → Int) : Nat := nz (fun i => P (i / 12) (i % 12)) 144
def RwOk (n : Nat) (r : Nat → Int) : Prop := ∀ t, t < 10 → tlo t ≤ r t ∧ r t ≤ thi n t
def WOk (w : Wd) : Prop := wN w ≤ 12 ∧ wE w = cP (wP w) ∧ wE w ≤ 40 ∧ wK w ≤ 20 ∧ (∀ p, p < wN w → RwOk (wN w) (wT w p)) ∧ (∀ f t, 0 ≤ wP w f t ∧ wP w f t ≤ 99) ∧ (∀ f t, wN w ≤ f ∨ wN w ≤ t → wP w f t = 0) ∧ (∀ i, i < wK w → 0 ≤ wY w i ∧ wY w i ≤ 49 ∧ 0 ≤ wL w i ∧ wL w i < wN w) ∧ (∀ i, i < 10 → -1 ≤ wS w i ∧ wS w i < wN w) ∧ (-2147483648 ≤ wZ w ∧ wZ w < 2147483648)
theorem thi_mono {n t : Nat} : thi n t ≤ thi (n + 1) t := by unfold thi; repeat' split <;> omega
theorem row0_ok {n k v : Nat} (hk : k ≤ 6) (h1 : 1 ≤ v) (h2 : v ≤ 99) : RwOk n (row0 k v) := by
  intro t ht
  have c : t = 0 ∨ t = 1 ∨ t = 2 ∨ t = 3 ∨ t = 4 ∨ t = 5 ∨ t = 6 ∨ t = 7 ∨ t = 8 ∨ t = 9 := by omega
  rcases c with rfl | rfl | rfl | rfl | rfl | rfl | rfl | rfl | rfl | rfl <;> simp [row0, tlo, thi] <;> omega
theorem lo_tlo {n t : Nat} (h : 2 ≤ t ∧ t ≤ 6) : tlo t = lo t ∧ thi n t = hi t := by
  have c : t = 2 ∨ t = 3 ∨ t = 4 ∨ t = 5 ∨ t = 6 := by omega
  rcases c with rfl | rfl | rfl | rfl | rfl <;> simp [lo, hi, tlo, thi]
theorem opS_ok {b : Nat → Int} {len n : Nat} : ∀ (f p : Nat) (r : Nat → Int), p ≤ len → RwOk n r → (opS b len f p r).2.1 ≤ len ∧ p ≤ (opS b len f p r).2.1 ∧ RwOk n (opS b len f p r).2.2 := by
  intro f
  induction f with
  | zero => intro p r hp hr; exact ⟨hp, Nat.le_refl _, hr⟩
  | succ f ih =>
    intro p r hp hr
    have b0 := tk_bd (b := b) hp
    have b1 := tk_bd (b := b) b0.2.2.1
    cases e : td b (tk b len p) with
    | none => rw [opS_n e]; exact ⟨hp, Nat.le_refl _, hr⟩
    | some tr =>
      by_cases c : (tk b len (tk b len p).2.2.1).1 = 2 ∧ lo tr ≤ (tk b len (tk b len p).2.2.1).2.2.2 ∧ (tk b len (tk b len p).2.2.1).2.2.2 ≤ hi tr
      · rw [opS_s e c]
        have := ih (tk b len (tk b len p).2.2.1).2.2.1 (fun t => if t = tr then ((tk b len (tk b len p).2.2.1).2.2.2 : Int) else r t) b1.2.2.1 (fun t ht => by
          show tlo t ≤ (if t = tr then _ else r t) ∧ (if t = tr then _ else r t) ≤ thi n t
          have e2 := lo_tlo (n := n) (td_le e)
          by_cases e3 : t = tr
          · rw [if_pos e3, e3]; omega
          · rw [if_neg e3]; exact hr t ht)
        exact ⟨this.1, by omega, this.2.2⟩
      · rw [opS_x e c]; exact ⟨b0.2.2.1, by show p ≤ (tk b len p).2.2.1; omega, hr⟩
theorem plS_bd {b : Nat → Int} {len p : Nat} {w : Wd} (hp : p ≤ len) : (plS b len w p).2.1 ≤ len ∧ p ≤ (plS b len w p).2.1 := by
  have b0 := tk_bd (b := b) hp
  have b1 := tk_bd (b := b) b0.2.2.1
  cases e : kd b (tk b len p) with
  | none => rw [plS_n e]; exact ⟨hp, Nat.le_refl _⟩
  | some k =>
    by_cases c : wN w = 12
    · rw [plS_f e c]; exact ⟨hp, Nat.le_refl _⟩
    · by_cases c2 : (tk b len (tk b len p).2.2.1).1 = 2 ∧ 1 ≤ (tk b len (tk b len p).2.2.1).2.2.2 ∧ (tk b len (tk b len p).2.2.1).2.2.2 ≤ 99
      · rw [plS_s e c c2]
        have := opS_ok (b := b) (len := len) (n := 0) 121 _ (row0 k (tk b len (tk b len p).2.2.1).2.2.2) b1.2.2.1 (row0_ok (kd_le e) c2.2.1 c2.2.2)
        exact ⟨this.1, by have := this.2.1; show p ≤ (opS _ _ _ _ _).2.1; omega⟩
      · rw [plS_x e c c2]; exact ⟨b0.2.2.1, by show p ≤ (tk b len p).2.2.1; omega⟩
theorem cP_cg {P P' : Nat → Nat → Int} (h : ∀ f t, P f t = P' f t) : cP P = cP P' := nz_cg fun i _ => h _ _
theorem addW_ok {w : Wd} {r : Nat → Int} (h : WOk w) (hn : wN w ≤ 11) (hr : RwOk (wN w + 1) r) : WOk (addW w r) := by
  obtain ⟨h0, h1, h2, h3, h4, h5, h6, h7, h8, h9⟩ := h
  have e : ∀ f t, wP (addW w r) f t = wP w f t := fun f t => by
    show (if f = wN w ∨ t = wN w then 0 else wP w f t) = _
    by_cases c : f = wN w ∨ t = wN w
    · rw [if_pos c, h6 f t (by omega)]
    · rw [if_neg c]
  refine ⟨?_, ?_, h2, h3, fun p hp => ?_, fun f t => by rw [e]; exact h5 f t, fun f t hft => ?_, fun i hi => ?_, fun i hi => ?_, h9⟩
  · show wN w + 1 ≤ 12
    omega
  · rw [cP_cg e]; exact h1
  · have hp2 : p < wN w + 1 := hp
    show RwOk (wN w + 1) (if p = wN w then r else wT w p)
    by_cases c : p = wN w
    · rw [if_pos c]; exact hr
    · rw [if_neg c]
      intro t ht
      have := h4 p (by omega) t ht
      have := thi_mono (n := wN w) (t := t)
      exact ⟨by omega, by omega⟩
  · have : wN w + 1 ≤ f ∨ wN w + 1 ≤ t := hft
    rw [e, h6 f t (by omega)]
  · have := h7 i hi
    show 0 ≤ wY w i ∧ wY w i ≤ 49 ∧ 0 ≤ wL w i ∧ wL w i < ((wN w + 1 : Nat) : Int)
    omega
  · have := h8 i hi
    show -1 ≤ wS w i ∧ wS w i < ((wN w + 1 : Nat) : Int)
    omega
theorem plS_ok {b : Nat → Int} {len p : Nat} {w : Wd} (hp : p ≤ len) (h : WOk w) (ho : (plS b len w p).1 = true) : WOk (plS b len w p).2.2 := by
  have b0 := tk_bd (b := b) hp
  have b1 := tk_bd (b := b) b0.2.2.1
  cases e : kd b (tk b len p) with
  | none => rw [plS_n e] at ho; exact absurd ho Bool.false_ne_true
  | some k =>
    by_cases c : wN w = 12
    · rw [plS_f e c] at ho; exact absurd ho Bool.false_ne_true
    · by_cases c2 : (tk b len (tk b len p).2.2.1).1 = 2 ∧ 1 ≤ (tk b len (tk b len p).2.2.1).2.2.2 ∧ (tk b len (tk b len p).2.2.1).2.2.2 ≤ 99
      · rw [plS_s e c c2]
        exact addW_ok h (by have := h.1; omega) (opS_ok (b := b) (len := len) 121 _ (row0 k (tk b len (tk b len p).2.2.1).2.2.2) b1.2.2.1 (row0_ok (kd_le e) c2.2.1 c2.2.2)).2.2
      · rw [plS_x e c c2] at ho; exact absurd ho Bool.false_ne_true
theorem cP_set {P P' : Nat → Nat → Int} {f t : Nat} (hf : f < 12) (ht : t < 12) (h : ∀ a c, ¬ (a = f ∧ c = t) → P' a c = P a c) : cP P' + (if P f t = 0 then 0 else 1) = cP P + if P' f t = 0 then 0 else 1 := by
  have := nz_set (g := fun i => P (i / 12) (i % 12)) (g' := fun i => P' (i / 12) (i % 12)) (k := 144) (j := 12 * f + t) (by omega) (fun i hi hne => h _ _ (by omega))
  have e1 : (12 * f + t) / 12 = f := by omega
  have e2 : (12 * f + t) % 12 = t := by omega
  simp only [e1, e2] at this
  exact this
theorem tieW_ok {w : Wd} {f t : Nat} {v : Int} (h : WOk w) (hf : f < wN w) (ht : t < wN w) (hE : wE w < 40) (h0 : wP w f t = 0) (hv : 1 ≤ v ∧ v ≤ 99) : WOk (tieW w f t v) := by
  obtain ⟨g0, g1, g2, g3, g4, g5, g6, g7, g8, g9⟩ := h
  refine ⟨g0, ?_, ?_, g3, g4, fun a c => ?_, fun a c hac => ?_, g7, g8, g9⟩
  · have := cP_set (P := wP w) (P' := wP (tieW w f t v)) (f := f) (t := t) (by omega) (by omega) (fun a c hac => if_neg hac)
    rw [if_pos h0, if_neg (by show (if f = f ∧ t = t then v else wP w f t) ≠ 0; rw [if_pos ⟨rfl, rfl⟩]; omega)] at this
    show wE w + 1 = _
    omega
  · show wE w + 1 ≤ 40
    omega
  · show 0 ≤ (if a = f ∧ c = t then v else wP w a c) ∧ (if a = f ∧ c = t then v else wP w a c) ≤ 99
    by_cases e : a = f ∧ c = t
    · rw [if_pos e]; omega
    · rw [if_neg e]; exact g5 a c
  · have hac2 : wN w ≤ a ∨ wN w ≤ c := hac
    show (if a = f ∧ c = t then v else wP w a c) = 0
    rw [if_neg (by omega)]
    exact g6 a c hac2
/-- the ways through a tie -/
theorem tieS_c {b : Nat → Int} {len p : Nat} {w : Wd} (hp : p ≤ len) : ((tieS b len w p).2.1 ≤ len ∧ p ≤ (tieS b len w p).2.1) ∧ ((tieS b len w p).1 = true → ∃ f t v : Nat, f < wN w ∧ t < wN w ∧ wE w ≠ 40 ∧ wP w f t = 0 ∧ 1 ≤ v ∧ v ≤ 99 ∧ (tieS b len w p).2.2 = tieW w f t v) := by
  have bd := tk_bd (b := b) hp
  have bd1 := tk_bd (b := b) (len := len) (pos := nx b len p) bd.2.2.1
  have bd2 := tk_bd (b := b) (len := len) (pos := nx b len (nx b len p)) bd1.2.2.1
  have bd3 := tk_bd (b := b) (len := len) (pos := nx b len (nx b len (nx b len p))) bd2.2.2.1
  have bd4 := tk_bd (b := b) (len := len) (pos := nx b len (nx b len (nx b len (nx b len p)))) bd3.2.2.1
  unfold tieS
  split
  · rename_i c0
    split
    · split
      · rename_i c2
        split
        · split
          · rename_i c4
            refine ⟨⟨bd4.2.2.1, ?_⟩, fun _ => ⟨_, _, _, c0.2.2, c2.2.1, c0.1, c2.2.2.2, c4.2.1, c4.2.2, rfl⟩⟩
            show p ≤ nx b len (nx b len (nx b len (nx b len (nx b len p))))
            unfold nx at *
            omega
          · refine ⟨⟨bd3.2.2.1, ?_⟩, fun z => absurd z Bool.false_ne_true⟩
            show p ≤ nx b len (nx b len (nx b len (nx b len p)))
            unfold nx at *
            omega
        · refine ⟨⟨bd2.2.2.1, ?_⟩, fun z => absurd z Bool.false_ne_true⟩
          show p ≤ nx b len (nx b len (nx b len p))
          unfold nx at *
          omega
      · refine ⟨⟨bd1.2.2.1, ?_⟩, fun z => absurd z Bool.false_ne_true⟩
        show p ≤ nx b len (nx b len p)
        unfold nx at *
        omega
    · refine ⟨⟨bd.2.2.1, ?_⟩, fun z => absurd z Bool.false_ne_true⟩
      show p ≤ nx b len p
      unfold nx at *
      omega
  · exact ⟨⟨hp, Nat.le_refl _⟩, fun z => absurd z Bool.false_ne_true⟩
def itS (b : Nat → Int) (len : Nat) (w : Wd) (p : Nat) : Bool × Nat × Wd := if (tk b len p).1 = 2 then tieS b len w p else plS b len w p
theorem itS_ok {b : Nat → Int} {len p : Nat} {w : Wd} (hp : p ≤ len) (h : WOk w) : ((itS b len w p).2.1 ≤ len ∧ p ≤ (itS b len w p).2.1) ∧ ((itS b len w p).1 = true → WOk (itS b len w p).2.2) := by
  unfold itS
  split
  · have := tieS_c (b := b) (w := w) hp
    refine ⟨this.1, fun z => ?_⟩
    obtain ⟨f, t, v, a1, a2, a3, a4, a5, a6, a7⟩ := this.2 z
    rw [a7]
    exact tieW_ok h a1 a2 (by have := h.2.2.1; omega) a4 (by omega)
  · exact ⟨plS_bd hp, plS_ok hp h⟩
/-- the items of a text: where its fault is, what it makes -/
def itsS (b : Nat → Int) (len : Nat) : Nat → Nat → Wd → Option Nat × Wd
  | 0, _, w => (some 0, w)
  | f + 1, p, w => if (itS b len w p).1 = true then
      if (tk b len (itS b len w p).2.1).1 = 3 then itsS b len f (nx b len (itS b len w p).2.1) (itS b len w p).2.2
      else if (tk b len (itS b len w p).2.1).1 = 0 then (none, (itS b len w p).2.2) else (some (tk b len (itS b len w p).2.1).2.1, (itS b len w p).2.2)
    else (some (tk b len (itS b len w p).2.1).2.1, (itS b len w p).2.2)
theorem itsS_ok {b : Nat → Int} {len : Nat} : ∀ (f p : Nat) (w : Wd), p ≤ len → WOk w → ((itsS b len f p w).1 = none → WOk (itsS b len f p w).2) ∧ ∀ s, (itsS b len f p w).1 = some s → s ≤ len := by
  intro f
  induction f with
  | zero => intro p w _ _; exact ⟨fun z => absurd z (by unfold itsS; simp), fun s hs => by unfold itsS at hs; injection hs; omega⟩
  | succ f ih =>
    intro p w hp h
    have i1 := itS_ok (b := b) hp h
    have b1 := tk_bd (b := b) i1.1.1
    unfold itsS
    split
    · rename_i c
      split
      · exact ih _ _ b1.2.2.1 (i1.2 c)
      · split
        · exact ⟨fun _ => i1.2 c, fun s hs => by injection hs⟩
        · exact ⟨fun z => (by injection z), fun s hs => by injection hs; omega⟩
    · exact ⟨fun z => (by injection z), fun s hs => by injection hs; omega⟩
