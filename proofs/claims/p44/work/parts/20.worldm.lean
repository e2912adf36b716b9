/-! THE REFERENCE'S world -/
theorem MW.cg' {μ μ' : mzM} {a : Nat} {w : Wd} (h : MW μ a w) (hN : wN w ≤ 12) (hK : wK w ≤ 20) {a' : Nat} (e : ∀ j, j < 318 → μ' a' j = μ a j) : MW μ' a' w := by
  obtain ⟨h0, h1, h2, h3, h4, h5, h6, h7⟩ := h
  refine ⟨?_, ?_, ?_, ?_, fun p t' hp ht' => ?_, fun f t' hf ht' => ?_, fun i hi => ⟨?_, ?_⟩, fun i hi => ?_⟩
  · rw [e _ (by omega)]; exact h0
  · rw [e _ (by omega)]; exact h1
  · rw [e _ (by omega)]; exact h2
  · rw [e _ (by omega)]; exact h3
  · rw [e _ (by omega)]; exact h4 p t' hp ht'
  · rw [e _ (by omega)]; exact h5 f t' hf ht'
  · rw [e _ (by omega)]; exact (h6 i hi).1
  · rw [e _ (by omega)]; exact (h6 i hi).2
  · rw [e _ (by omega)]; exact h7 i hi
theorem w2 {d : Nat} {q : Int → mzM → Prop} {μ0 : mzM} (h : ∀ μ', (∀ k j, k ≠ 5 → μ' k j = μ0 k j) → (∀ j, j < 318 → μ' 5 j = μ0 1 j) → mzCl d 13 [mzR 0] (mzS (mzS μ' 0 9 0) 0 11 0) (mzQv fun m1 => mzWp (d + 1) 20 43 [mzR 0, mzI 1, none, none] [] m1 (mzQi q))) :
    ∀ (c i : Nat) (x1 : Int) (μ : mzM), i + c = 318 → x1 = i → (∀ k j, k ≠ 5 → μ k j = μ0 k j) → (∀ j, j < i → μ 5 j = μ0 1 j) → mzWp (d + 1) 20 2 [mzR 0, mzI x1, none, none] [] μ (mzQi q) := by
  intro c
  induction c with
  | zero =>
    intro i x1 μ hi hx h1 h2
    exact g20_2 _ _ ⟨fun _ => ⟨or00, h μ h1 (fun j hj => h2 j (by omega))⟩, fun z => by omega⟩
  | succ c ih =>
    intro i x1 μ hi hx h1 h2
    subst hx
    refine g20_2 _ _ ⟨fun z => by omega, fun _ => ⟨⟨by omega, by omega⟩, ⟨by omega, by omega⟩, ih (i + 1) _ _ (by omega) (by rw [wid (by omega) (by omega)]; omega) (fun k j hk => ?_) (fun j hj => ?_)⟩⟩
    · rw [S_ne (by omega)]; exact h1 k j hk
    · rw [Int.toNat_natCast]
      by_cases e : j = i
      · rw [e, S_eq, h1 1 i (by omega)]
      · rw [S_ne (by omega)]; exact h2 j (by omega)
theorem w147 {d : Nat} {q : Int → mzM → Prop} {x2 : Int} {μ0 : mzM} (h : ∀ μ', (∀ k j, k ≠ 1 → μ' k j = μ0 k j) → (∀ j, j < 318 → μ' 1 j = μ0 5 j) → q (mzW (-1 - x2)) μ') :
    ∀ (c i : Nat) (x3 : Int) (μ : mzM), i + c = 318 → x3 = i → (∀ k j, k ≠ 1 → μ k j = μ0 k j) → (∀ j, j < i → μ 1 j = μ0 5 j) → mzWp (d + 1) 20 147 [mzR 0, none, mzI x2, mzI x3] [] μ (mzQi q) := by
  intro c
  induction c with
  | zero =>
    intro i x3 μ hi hx h1 h2
    exact g20_147 _ _ _ ⟨fun _ => h μ h1 (fun j hj => h2 j (by omega)), fun z => by omega⟩
  | succ c ih =>
    intro i x3 μ hi hx h1 h2
    subst hx
    refine g20_147 _ _ _ ⟨fun z => by omega, fun _ => ⟨⟨by omega, by omega⟩, ⟨by omega, by omega⟩, ih (i + 1) _ _ (by omega) (by rw [wid (by omega) (by omega)]; omega) (fun k j hk => ?_) (fun j hj => ?_)⟩⟩
    · rw [S_ne (by omega)]; exact h1 k j hk
    · rw [Int.toNat_natCast]
      by_cases e : j = i
      · rw [e, S_eq, h1 5 i (by omega)]
      · rw [S_ne (by omega)]; exact h2 j (by omega)
/-- the reference's world: all but m, ahead and the reader's own fields stays -/
def XwM (μ μ' : mzM) : Prop := ∀ k j, (k ≠ 0 ∨ (j ≠ 4 ∧ j < 6) ∨ 11 < j) → k ≠ 1 → k ≠ 5 → μ' k j = μ k j
theorem XpM.w {μ μ' : mzM} (h : XpM μ μ') : XwM μ μ' := fun k j h1 h2 _ => h k j (by omega) h2
theorem XwM.tr {μ μ' μ'' : mzM} (h : XwM μ μ') (h2 : XwM μ' μ'') : XwM μ μ'' := fun a b h1 hn h5 => (h2 a b h1 hn h5).trans (h a b h1 hn h5)
theorem XwM.st {μ μ' : mzM} {j : Nat} {v : Int} (h : XwM μ μ') (hj : j = 4 ∨ (6 ≤ j ∧ j ≤ 11)) : XwM μ (mzS μ' 0 j v) := fun a b h1 hn h5 => by
  rw [S_ne (by omega)]
  exact h a b h1 hn h5
/-- out of the loop over the items -/
theorem w_no {d : Nat} {q : Int → mzM → Prop} {s : Nat} {m : mzM} (hs : s ≤ 120) (hb : m 0 11 = 1 ∨ (m 0 11 = 0 ∧ m 0 7 ≠ 0)) (h8 : m 0 8 = s) (h : ∀ μ', XwM m μ' → (∀ j, j < 318 → μ' 1 j = m 5 j) → μ' 0 6 = 0 → μ' 0 4 = m 0 4 → q (-1 - (s : Int)) μ') : mzWp (d + 1) 20 43 [mzR 0, mzI 0, none, none] [] m (mzQi q) := by
  have e : mzWp (d + 1) 20 147 [mzR 0, none, mzI (m 0 8), mzI 0] [] (mzS (mzS m 0 11 1) 0 6 0) (mzQi q) := w147 (fun μ' h1 h2 => by
    rw [h8, wid (by omega) (by omega)]
    refine h μ' (fun k j a1 a2 a3 => ?_) (fun j hj => ?_) ?_ ?_
    · rw [h1 k j a2, S_ne (by omega), S_ne (by omega)]
    · rw [h2 j hj, S_ne (by omega), S_ne (by omega)]
    · rw [h1 0 6 (by omega), S_eq]
    · rw [h1 0 4 (by omega), S_ne (by omega), S_ne (by omega)]) 318 0 0 _ rfl rfl (fun _ _ _ => rfl) (fun j hj => by omega)
  refine g20_43 _ _ ⟨fun _ => ⟨fun _ => ⟨or10, fun z => absurd z (by decide), fun _ => e⟩, fun z => ⟨fun z2 => ?_, fun _ => ⟨or10, fun z => absurd z (by decide), fun _ => e⟩⟩⟩, fun z => absurd rfl z⟩
  rcases hb with hb | hb
  · rw [hb] at z; exact absurd z (by decide)
  · exact absurd z2 hb.2
theorem w_yes {d : Nat} {q : Int → mzM → Prop} {m : mzM} (hb : m 0 11 = 0) (h7 : m 0 7 = 0) (h : ∀ μ', XwM m μ' → (∀ j, μ' 1 j = m 1 j) → μ' 0 6 = 0 → μ' 0 4 = 0 → q (m 1 0) μ') : mzWp (d + 1) 20 43 [mzR 0, mzI 0, none, none] [] m (mzQi q) := by
  refine g20_43 _ _ ⟨fun _ => ⟨fun z => absurd hb z, fun _ => ⟨fun _ => ⟨or00, fun _ => ⟨or00, ⟨by omega, by omega⟩, h _ (fun k j a1 a2 a3 => ?_) (fun j => ?_) ?_ S_eq⟩, fun z => absurd rfl z⟩, fun z => absurd h7 z⟩⟩, fun z => absurd rfl z⟩
  · rw [S_ne (by omega), S_ne (by omega), S_ne (by omega)]
  · rw [S_ne (by omega), S_ne (by omega), S_ne (by omega)]
  · rw [S_ne (by omega), S_eq]
theorem w_its {d : Nat} {q : Int → mzM → Prop} {b : Nat → Int} {len : Nat} (hl : len ≤ 120) : ∀ (f p : Nat) (w : Wd) (m : mzM), len - p < f → p ≤ len → WOk w → TpM m b len → TkM' m (tk b len p) → m 0 11 = 0 → MW m 1 w →
    ((itsS b len f p w).1 = none → ∀ μ', XwM m μ' → μ' 0 6 = 0 → μ' 0 4 = 0 → MW μ' 1 (itsS b len f p w).2 → q (wN (itsS b len f p w).2) μ') →
    (∀ s, (itsS b len f p w).1 = some s → ∀ μ', XwM m μ' → μ' 0 6 = 0 → μ' 0 4 = m 0 4 → (∀ j, j < 318 → μ' 1 j = m 5 j) → q (-1 - (s : Int)) μ') →
    mzWp (d + 5) 20 43 [mzR 0, mzI 1, none, none] [] m (mzQi q) := by
  intro f
  induction f with
  | zero => intro p w m h; omega
  | succ f ih =>
    intro p w m hf hp hW ht hk hb hw hyes hnos
    have i1 := itS_ok (b := b) hp hW
    have b1 := tk_bd (b := b) i1.1.1
    -- behind one item
    have good : (itS b len w p).1 = true → ∀ μ', XpM m μ' → μ' 0 11 = 0 → MW μ' 1 (itS b len w p).2.2 → TkM' μ' (tk b len (itS b len w p).2.1) → (μ' 0 11 ≠ 0 → ((0 : Int) = 0 → mzWp (d + 5) 20 43 [mzR 0, mzI 0, none, none] [] μ' (mzQi q)) ∧ ((0 : Int) ≠ 0 → mzCl (d + 4) 13 [mzR 0] μ' (mzQv fun m2 => mzWp (d + 5) 20 43 [mzR 0, mzI 0, none, none] [] m2 (mzQi q)))) ∧ (μ' 0 11 = 0 → (μ' 0 7 ≠ 3 → ((0 : Int) = 0 → mzWp (d + 5) 20 43 [mzR 0, mzI 0, none, none] [] μ' (mzQi q)) ∧ ((0 : Int) ≠ 0 → mzCl (d + 4) 13 [mzR 0] μ' (mzQv fun m3 => mzWp (d + 5) 20 43 [mzR 0, mzI 0, none, none] [] m3 (mzQi q)))) ∧ (μ' 0 7 = 3 → ((1 : Int) = 0 → mzWp (d + 5) 20 43 [mzR 0, mzI 1, none, none] [] μ' (mzQi q)) ∧ ((1 : Int) ≠ 0 → mzCl (d + 4) 13 [mzR 0] μ' (mzQv fun m4 => mzWp (d + 5) 20 43 [mzR 0, mzI 1, none, none] [] m4 (mzQi q))))) := by
      intro ho μ' x1 c1 c2 c3
      refine ⟨fun z => absurd c1 z, fun _ => ⟨fun z => ⟨fun _ => ?_, fun z => absurd rfl z⟩, fun z => ⟨fun z => absurd z (by decide), fun _ => ?_⟩⟩⟩
      · by_cases c4 : (tk b len (itS b len w p).2.1).1 = 0
        · have e : itsS b len (f + 1) p w = (none, (itS b len w p).2.2) := by rw [itsS, if_pos ho, if_neg (by rw [c4]; decide), if_pos c4]
          rw [e] at hyes
          refine w_yes c1 (by rw [c3.1, c4]; rfl) (fun μ2 y1 y2 y3 y4 => ?_)
          rw [c2.1]
          exact hyes rfl μ2 (x1.w.tr y1) y3 y4 (c2.cg y2)
        · have c5 : (tk b len (itS b len w p).2.1).1 ≠ 3 := fun c => z (by rw [c3.1, c]; rfl)
          have e : itsS b len (f + 1) p w = (some (tk b len (itS b len w p).2.1).2.1, (itS b len w p).2.2) := by rw [itsS, if_pos ho, if_neg c5, if_neg c4]
          rw [e] at hnos
          refine w_no (s := (tk b len (itS b len w p).2.1).2.1) (by omega) (Or.inr ⟨c1, by rw [c3.1]; omega⟩) c3.2.1 (fun μ2 y1 y2 y3 y4 => hnos _ rfl μ2 (x1.w.tr y1) y3 (y4.trans (x1 0 4 (by omega) (by omega))) (fun j hj => (y2 j hj).trans (x1 5 j (by omega) (by omega))))
      · have c5 : (tk b len (itS b len w p).2.1).1 = 3 := by have := c3.1; omega
        have e : itsS b len (f + 1) p w = itsS b len f (nx b len (itS b len w p).2.1) (itS b len w p).2.2 := by rw [itsS, if_pos ho, if_pos c5]
        rw [e] at hyes hnos
        have p2 := b1.2.2.2.1 (by rw [c5]; decide)
        refine c_next (d := d + 2) (pos := nx b len (itS b len w p).2.1) hl b1.2.2.1 c3.2.2.1 (x1.tp ht) (fun μ2 y1 y2 => ?_)
        have x2 : XpM m μ2 := x1.tr y1.p
        exact ih _ _ μ2 (by show len - nx b len _ < f; unfold nx; omega) b1.2.2.1 (i1.2 ho) (x2.tp ht) y2 (by rw [y1 0 11 (by omega)]; exact c1) (y1.cg c2) (fun g μ3 a1 => hyes g μ3 (x2.w.tr a1)) (fun s g μ3 a1 a2 a4 a3 => hnos s g μ3 (x2.w.tr a1) a2 (a4.trans (x2 0 4 (by omega) (by omega))) (fun j hj => (a3 j hj).trans (x2 5 j (by omega) (by omega))))
    have bad : (itS b len w p).1 = false → ∀ μ', XpM m μ' → μ' 0 11 = 1 → μ' 0 8 = (tk b len (itS b len w p).2.1).2.1 → (μ' 0 11 ≠ 0 → ((0 : Int) = 0 → mzWp (d + 5) 20 43 [mzR 0, mzI 0, none, none] [] μ' (mzQi q)) ∧ ((0 : Int) ≠ 0 → mzCl (d + 4) 13 [mzR 0] μ' (mzQv fun m2 => mzWp (d + 5) 20 43 [mzR 0, mzI 0, none, none] [] m2 (mzQi q)))) ∧ (μ' 0 11 = 0 → (μ' 0 7 ≠ 3 → ((0 : Int) = 0 → mzWp (d + 5) 20 43 [mzR 0, mzI 0, none, none] [] μ' (mzQi q)) ∧ ((0 : Int) ≠ 0 → mzCl (d + 4) 13 [mzR 0] μ' (mzQv fun m3 => mzWp (d + 5) 20 43 [mzR 0, mzI 0, none, none] [] m3 (mzQi q)))) ∧ (μ' 0 7 = 3 → ((1 : Int) = 0 → mzWp (d + 5) 20 43 [mzR 0, mzI 1, none, none] [] μ' (mzQi q)) ∧ ((1 : Int) ≠ 0 → mzCl (d + 4) 13 [mzR 0] μ' (mzQv fun m4 => mzWp (d + 5) 20 43 [mzR 0, mzI 1, none, none] [] m4 (mzQi q))))) := by
      intro ho μ' x1 c1 c3
      have e : itsS b len (f + 1) p w = (some (tk b len (itS b len w p).2.1).2.1, (itS b len w p).2.2) := by rw [itsS, if_neg (by rw [ho]; decide)]
      rw [e] at hnos
      refine ⟨fun _ => ⟨fun _ => w_no (s := (tk b len (itS b len w p).2.1).2.1) (by omega) (Or.inl c1) c3 (fun μ2 y1 y2 y3 y4 => hnos _ rfl μ2 (x1.w.tr y1) y3 (y4.trans (x1 0 4 (by omega) (by omega))) (fun j hj => (y2 j hj).trans (x1 5 j (by omega) (by omega)))), fun z => absurd rfl z⟩, fun z => by rw [c1] at z; exact absurd z (by decide)⟩
    refine g20_43 _ _ ⟨fun z => absurd z (by decide), fun _ => ⟨fun z => absurd hb z, fun _ => ⟨fun z => ?_, fun z => ?_⟩⟩⟩
    · have e : itS b len w p = plS b len w p := if_neg (fun c => z (by rw [hk.1, c]; rfl))
      rw [e] at good bad
      exact c_placeItem hl hp hW.2.2.2.1 ht hk hb hw hW.1 good bad
    · have e : itS b len w p = tieS b len w p := if_pos (by have := hk.1; omega)
      rw [e] at good bad
      exact c_tieItem hl hp ⟨by have := hW.2.1; omega, hW.2.2.1⟩ ht hk hb hw hW.1 good bad
/-- world: what it says and what it leaves -/
theorem c_world {d : Nat} {q : Int → mzM → Prop} {b : Nat → Int} {len : Nat} {w : Wd} {μ : mzM} (hl : len ≤ 120) (hW : WOk w) (ht : TpM μ b len) (hw : MW μ 1 w)
    (hyes : (itsS b len 121 0 w).1 = none → ∀ μ', XwM μ μ' → μ' 0 6 = 0 → μ' 0 4 = 0 → MW μ' 1 (itsS b len 121 0 w).2 → q (wN (itsS b len 121 0 w).2) μ')
    (hno : ∀ s, (itsS b len 121 0 w).1 = some s → ∀ μ', XwM μ μ' → μ' 0 6 = 0 → μ' 0 4 = μ 0 4 → MW μ' 1 w → q (-1 - (s : Int)) μ') : mzCl (d + 5) 20 [mzR 0] μ (mzQi q) := by
  refine g20_e _ (w2 (fun μ1 h1 h2 => ?_) 318 0 0 μ rfl rfl (fun _ _ _ => rfl) (fun j hj => by omega))
  have x0 : XwM μ (mzS (mzS μ1 0 9 0) 0 11 0) := fun k j a1 a2 a3 => by rw [S_ne (by omega), S_ne (by omega)]; exact h1 k j a3
  have t0 : TpM (mzS (mzS μ1 0 9 0) 0 11 0) b len := ⟨by rw [S_ne (by omega), S_ne (by omega), h1 0 6 (by omega)]; exact ht.1, fun i hi => by rw [S_ne (by omega), S_ne (by omega), h1 4 i (by omega)]; exact ht.2 i hi⟩
  refine c_next (d := d + 2) (pos := 0) hl (Nat.zero_le _) (by rw [S_ne (by omega), S_eq]; rfl) t0 (fun m y1 y2 => ?_)
  have x1 : XwM μ m := x0.tr y1.p.w
  have e5 : ∀ j, j < 318 → m 5 j = μ 1 j := fun j hj => by rw [y1 5 j (by omega), S_ne (by omega), S_ne (by omega)]; exact h2 j hj
  refine w_its hl 121 0 w m (by omega) (Nat.zero_le _) hW (y1.tp t0) y2 (by rw [y1 0 11 (by omega), S_eq]) (hw.cg fun j => by rw [y1 1 j (by omega), S_ne (by omega), S_ne (by omega)]; exact h1 1 j (by omega)) (fun g μ' a1 => hyes g μ' (x1.tr a1)) (fun s g μ' a1 a2 a4 a3 => hno s g μ' (x1.tr a1) a2 (a4.trans (by rw [y1 0 4 (by omega), S_ne (by omega), S_ne (by omega), h1 0 4 (by omega)])) (hw.cg' hW.1 hW.2.2.2.1 (fun j hj => (a3 j hj).trans (e5 j hj))))
