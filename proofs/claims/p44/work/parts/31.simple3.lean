/-! PAIRS: tie, tieOf, cut, hold -/
theorem S_cm {μ : mzM} {a b c e : Nat} {u v : Int} (h : a ≠ c ∨ b ≠ e) : mzS (mzS μ a b u) c e v = mzS (mzS μ c e v) a b u := by
  funext k j
  by_cases h1 : k = a ∧ j = b
  · rw [h1.1, h1.2, S_eq, S_ne h, S_eq]
  · by_cases h2 : k = c ∧ j = e
    · rw [h2.1, h2.2, S_eq, S_ne (by omega), S_eq]
    · rw [S_ne (by omega), S_ne (by omega), S_ne (by omega), S_ne (by omega)]
theorem S_id {μ : mzM} {k j : Nat} {v : Int} (h : μ k j = v) : mzS μ k j v = μ := by
  funext a b
  by_cases h1 : a = k ∧ b = j
  · rw [h1.1, h1.2, S_eq, h]
  · rw [S_ne (by omega)]
theorem setP_ok {w : Wd} {f t : Nat} {v e : Int} (h : WOk w) (hf : f < wN w) (ht : t < wN w) (hv : 0 ≤ v ∧ v ≤ 99) (he : e ≤ 40) (hc : e + (if wP w f t = 0 then 0 else 1) = wE w + if v = 0 then 0 else 1) : WOk (setP w f t v e) := by
  obtain ⟨g0, g1, g2, g3, g4, g5, g6, g7, g8, g9⟩ := h
  refine ⟨g0, ?_, he, g3, g4, fun a c => ?_, fun a c hac => ?_, g7, g8, g9⟩
  · have := cP_set (P := wP w) (P' := wP (setP w f t v e)) (f := f) (t := t) (by omega) (by omega) (fun a c hac => if_neg hac)
    have e2 : wP (setP w f t v e) f t = v := if_pos ⟨rfl, rfl⟩
    rw [e2] at this
    show e = ((cP (wP (setP w f t v e)) : Nat) : Int)
    by_cases c1 : wP w f t = 0
    · rw [if_pos c1] at this hc
      by_cases c2 : v = 0
      · rw [if_pos c2] at this hc; omega
      · rw [if_neg c2] at this hc; omega
    · rw [if_neg c1] at this hc
      by_cases c2 : v = 0
      · rw [if_pos c2] at this hc; omega
      · rw [if_neg c2] at this hc; omega
  · show 0 ≤ (if a = f ∧ c = t then v else wP w a c) ∧ (if a = f ∧ c = t then v else wP w a c) ≤ 99
    by_cases e : a = f ∧ c = t
    · rw [if_pos e]; exact hv
    · rw [if_neg e]; exact g5 a c
  · have hac2 : wN w ≤ a ∨ wN w ≤ c := hac
    show (if a = f ∧ c = t then v else wP w a c) = 0
    rw [if_neg (by omega)]
    exact g6 a c hac2
theorem MW.P {μ : mzM} {a : Nat} {w : Wd} (h : MW μ a w) {f t : Nat} (hf : f < wN w) (ht : t < wN w) : μ a (124 + 12 * f + t) = wP w f t := h.2.2.2.2.2.1 f t hf ht
theorem CW.P {μ : mzM} {w : Wd} (h : CW μ 0 w) {f t : Nat} (hf : f < 12) (ht : t < 12) : μ (88 + f) t = wP w f t := h.2.2.2.2.2.2.1 f t hf ht
theorem CW.E {μ : mzM} {w : Wd} (h : CW μ 0 w) : μ 26 1 = wE w := h.2.1
theorem WOk.E {w : Wd} (h : WOk w) : 0 ≤ wE w ∧ wE w ≤ 40 := ⟨by have := h.2.1; omega, h.2.2.1⟩
/-- tie -/
def tiS (w : Wd) (f t v : Int) : Int × Wd := if (0 ≤ f ∧ f < wN w) ∧ (0 ≤ t ∧ t < wN w) ∧ f ≠ t ∧ 1 ≤ v ∧ v ≤ 99 then (if wP w f.toNat t.toNat = 0 ∧ wE w = 40 then (-1000002, w) else (wP w f.toNat t.toNat, setP w f.toNat t.toNat v (wE w + if wP w f.toNat t.toNat = 0 then 1 else 0))) else (-1000001, w)
theorem tiS_ok {w : Wd} {f t v : Int} (h : WOk w) : WOk (tiS w f t v).2 := by
  unfold tiS
  split
  · rename_i c
    split
    · exact h
    · rename_i c2
      have := h.E
      refine setP_ok h (by omega) (by omega) (by omega) ?_ ?_
      · split <;> omega
      · rw [if_neg (show ¬ v = 0 by omega)]
        split <;> omega
  · exact h
theorem c_isTie {d : Nat} {q : Int → mzM → Prop} {f t : Int} {μ : mzM} {w : Wd} (hW : WOk w) (I : MI μ w) (h1 : (0 ≤ f ∧ f < wN w) → (0 ≤ t ∧ t < wN w) → f ≠ t → q 1 μ) (h0 : ¬ ((0 ≤ f ∧ f < wN w) ∧ (0 ≤ t ∧ t < wN w) ∧ f ≠ t) → q 0 μ) : mzCl (d + 2) 27 [mzR 0, mzI f, mzI t] μ (mzQi q) :=
  g27_e _ _ _ (c_isPlace I.1.1 hW.1 (fun a1 a2 => ⟨fun z => absurd z (by decide), fun _ => c_isPlace I.1.1 hW.1 (fun b1 b2 => ⟨fun z => absurd z (by decide), fun _ => ⟨fun z => ⟨or00, h0 (fun c => c.2.2 z)⟩, fun z => ⟨or10, h1 ⟨a1, a2⟩ ⟨b1, b2⟩ z⟩⟩⟩) (fun b => ⟨fun _ => ⟨or00, h0 (by omega)⟩, fun z => absurd rfl z⟩)⟩) (fun a => ⟨fun _ => ⟨or00, h0 (by omega)⟩, fun z => absurd rfl z⟩))
theorem c_tie {d : Nat} {q : Int → mzM → Prop} {f t v : Int} {μ : mzM} {w : Wd} (hW : WOk w) (I : MI μ w) (h : ∀ μ', FM μ μ' → MI μ' (tiS w f t v).2 → q (tiS w f t v).1 μ') : mzCl (d + 3) 28 [mzR 0, mzI f, mzI t, mzI v] μ (mzQi q) := by
  unfold tiS at h
  have hE := hW.E
  have hN := hW.1
  refine g28_e _ _ _ _ (c_isTie hW I (fun a b ne => ⟨fun z => absurd z (by decide), fun _ => c_in (fun v1 v2 => ⟨fun _ => ?_, fun z => absurd z (by decide)⟩) (fun v' => ⟨fun z => absurd rfl z, fun _ => c_fd (by omega) I (by rw [if_neg (by omega)] at h; exact h)⟩)⟩) (fun c => ⟨fun _ => c_fd (by omega) I (by rw [if_neg (fun c' => c ⟨c'.1, c'.2.1, c'.2.2.1⟩)] at h; exact h), fun z => absurd rfl z⟩))
  rw [if_pos ⟨a, b, ne, v1, v2⟩] at h
  obtain ⟨f, rfl⟩ : ∃ n : Nat, f = n := ⟨f.toNat, by omega⟩
  obtain ⟨t, rfl⟩ : ∃ n : Nat, t = n := ⟨t.toNat, by omega⟩
  have hf : f < wN w := by omega
  have ht : t < wN w := by omega
  rw [Int.toNat_natCast, Int.toNat_natCast] at h
  have e1 : μ 1 1 = wE w := I.1.2.1
  rw [w12c (by omega) (by omega), Int.toNat_natCast, I.1.P hf ht, e1, wid (z := wE w + 0) (by omega) (by omega), wid (z := wE w + 1) (by omega) (by omega)]
  have go : ∀ e : Int, e = wE w + (if wP w f t = 0 then 1 else 0) → ¬ (wP w f t = 0 ∧ wE w = 40) → mzCl (d + 2) 24 [mzR 0, mzI ((124 + 12 * f + t : Nat) : Int), mzI v] (mzS μ 1 1 e) (mzQi fun r8 m7 => q r8 m7) := by
    intro e he hn
    rw [if_neg hn, ← he] at h
    refine c_bec (j := 124 + 12 * f + t) rfl (by omega) (I.1.setP hN (by omega) (by omega)) (fun μ' f' i _ => ?_)
    rw [S_ne (by omega), I.1.P hf ht]
    exact h μ' (FM.tr (FM.rf.st (by unfold scM; omega)) f') i
  refine ⟨by omega, fun z => ⟨by omega, by omega, fun _ => ⟨by omega, go _ ?_ (fun c => z c.1)⟩, fun z2 => absurd z2 z⟩, fun z => ⟨by omega, fun z1 => ⟨by omega, by omega, fun z2 => absurd z z2, fun _ => ⟨by omega, go _ ?_ (fun c => z1 c.2)⟩⟩, fun z1 => c_fd (by omega) I (by rw [if_pos ⟨z, z1⟩] at h; exact h)⟩⟩
  · rw [if_neg z]
  · rw [if_pos z]
theorem k_putTie {d : Nat} {q : mzM → Prop} {f t : Nat} {v : Int} {μ : mzM} {w : Wd} (hW : WOk w) (C : CW μ 0 w) (hf : f < wN w) (ht : t < wN w) (h : ∀ μ', FC μ μ' → CW μ' 0 (setP w f t v (wE w + if wP w f t = 0 then 1 else 0)) → q μ') : mzCl d 96 [mzR 26, mzI f, mzI t, mzI v] μ (mzQv q) := by
  have hN := hW.1
  have hE := hW.E
  refine g96_e _ _ _ _ ⟨by omega, ?_⟩
  rw [Int.toNat_natCast, Int.toNat_natCast, C.P (by omega) (by omega), C.E, wid (by omega) (by omega)]
  refine ⟨⟨by omega, by omega, by omega⟩, fun z => ⟨by omega, ⟨by omega, by omega, by omega⟩, ?_⟩, fun z => ⟨by omega, ⟨by omega, by omega, by omega⟩, ?_⟩⟩
  · rw [if_neg z, Int.add_zero] at h
    have := C.setP (f := f) (t := t) (v := v) (e := wE w) hN (by omega)
    rw [S_id C.E] at this
    exact h _ (FC.rf.st (by unfold scC isW; omega)) this
  · rw [if_pos z] at h
    exact h _ ((FC.rf.st (by unfold scC isW; omega)).st (by unfold scC isW; omega)) (C.setP hN (by omega))
theorem k_tie {d : Nat} {q : Int → mzM → Prop} {f t v : Int} {μ : mzM} {w : Wd} (hW : WOk w) (C : CW μ 0 w) (h : ∀ μ', FC μ μ' → CW μ' 0 (tiS w f t v).2 → q (tiS w f t v).1 μ') : mzCl (d + 1) 135 [mzR 14, mzI f, mzI t, mzI v] μ (mzQi q) := by
  unfold tiS at h
  have hE := hW.E
  have hN := hW.1
  have fd : ¬ ((0 ≤ f ∧ f < wN w) ∧ (0 ≤ t ∧ t < wN w) ∧ f ≠ t ∧ 1 ≤ v ∧ v ≤ 99) → mzCl d 173 [mzR 14, mzI (-1000001)] μ (mzQi q) := fun c => k_fd (by omega) hW.1 C (by rw [if_neg c] at h; exact h)
  refine g135_e _ _ _ _ (k_isPlace C.1 (fun a1 a2 => ⟨fun z => absurd z (by decide), fun _ => k_isPlace C.1 (fun b1 b2 => ⟨fun z => absurd z (by decide), fun _ => ⟨fun z => fd (fun c => c.2.2.1 z), fun ne => ⟨fun z => fd (by omega), fun v1 => ⟨fun v2 => ?_, fun z => fd (by omega)⟩⟩⟩⟩) (fun b => ⟨fun _ => fd (by omega), fun z => absurd rfl z⟩)⟩) (fun a => ⟨fun _ => fd (by omega), fun z => absurd rfl z⟩))
  rw [if_pos ⟨⟨a1, a2⟩, ⟨b1, b2⟩, ne, v1, v2⟩] at h
  obtain ⟨f, rfl⟩ : ∃ n : Nat, f = n := ⟨f.toNat, by omega⟩
  obtain ⟨t, rfl⟩ : ∃ n : Nat, t = n := ⟨t.toNat, by omega⟩
  have hf : f < wN w := by omega
  have ht : t < wN w := by omega
  rw [Int.toNat_natCast, Int.toNat_natCast] at h
  rw [Int.toNat_natCast, Int.toNat_natCast, C.P (by omega) (by omega), C.E]
  refine ⟨by omega, ⟨by omega, by omega, by omega⟩, fun z => k_putTie hW C hf ht (fun μ' f' c' => ?_), fun z => ⟨fun z1 => k_putTie hW C hf ht (fun μ' f' c' => ?_), fun z1 => k_fd (by omega) hW.1 C (by rw [if_pos ⟨z, by omega⟩] at h; exact h)⟩⟩
  · rw [if_neg (fun c => z c.1)] at h; exact h μ' f' c'
  · rw [if_neg (fun c => by omega)] at h; exact h μ' f' c'
theorem p_tie {d : Nat} {μ : mzM} {w : Wd} {q : Int → Int → mzM → Prop} {f t v : Int} (R : RW μ w) (h : ∀ a μ' w', RW μ' w' → q a a μ') : mzCl (d + 3) 135 [mzR 14, mzI f, mzI t, mzI v] μ (mzQi fun a m1 => mzCl (d + 3) 28 [mzR 0, mzI f, mzI t, mzI v] m1 (mzQi fun c m2 => q a c m2)) :=
  pair (tiS w f t v) R (tiS_ok R.1) (fun q' z => k_tie R.1 R.2.2.1 z) (fun m1 q' _ I z => c_tie R.1 I z) h
/-- tieOf -/
def toS (w : Wd) (f t : Int) : Int × Wd := (if (0 ≤ f ∧ f < wN w) ∧ (0 ≤ t ∧ t < wN w) then wP w f.toNat t.toNat else -1000001, w)
theorem c_tieOf {d : Nat} {q : Int → mzM → Prop} {f t : Int} {μ : mzM} {w : Wd} (hW : WOk w) (I : MI μ w) (h : ∀ μ', FM μ μ' → MI μ' (toS w f t).2 → q (toS w f t).1 μ') : mzCl (d + 3) 29 [mzR 0, mzI f, mzI t] μ (mzQi q) := by
  unfold toS at h
  have hN := hW.1
  refine g29_e _ _ _ (c_isPlace I.1.1 hW.1 (fun a1 a2 => ⟨fun z => absurd z (by decide), fun _ => c_isPlace I.1.1 hW.1 (fun b1 b2 => ⟨fun z => absurd z (by decide), fun _ => ?_⟩) (fun b => ⟨fun _ => c_fd (by omega) I (by rw [if_neg (by omega)] at h; exact h), fun z => absurd rfl z⟩)⟩) (fun a => ⟨fun _ => c_fd (by omega) I (by rw [if_neg (by omega)] at h; exact h), fun z => absurd rfl z⟩))
  rw [if_pos ⟨⟨a1, a2⟩, b1, b2⟩] at h
  obtain ⟨f, rfl⟩ : ∃ n : Nat, f = n := ⟨f.toNat, by omega⟩
  obtain ⟨t, rfl⟩ : ∃ n : Nat, t = n := ⟨t.toNat, by omega⟩
  rw [w12c (by omega) (by omega), Int.toNat_natCast, I.1.P (by omega) (by omega)]
  exact ⟨by omega, h μ FM.rf I⟩
theorem k_tieOf {d : Nat} {q : Int → mzM → Prop} {f t : Int} {μ : mzM} {w : Wd} (hW : WOk w) (C : CW μ 0 w) (h : ∀ μ', FC μ μ' → CW μ' 0 (toS w f t).2 → q (toS w f t).1 μ') : mzCl (d + 1) 136 [mzR 14, mzI f, mzI t] μ (mzQi q) := by
  unfold toS at h
  have hN := hW.1
  refine g136_e _ _ _ (k_isPlace C.1 (fun a1 a2 => ⟨fun z => absurd z (by decide), fun _ => k_isPlace C.1 (fun b1 b2 => ⟨fun _ => ?_, fun z => absurd z (by decide)⟩) (fun b => ⟨fun z => absurd rfl z, fun _ => k_fd (by omega) hW.1 C (by rw [if_neg (by omega)] at h; exact h)⟩)⟩) (fun a => ⟨fun _ => k_fd (by omega) hW.1 C (by rw [if_neg (by omega)] at h; exact h), fun z => absurd rfl z⟩))
  rw [if_pos ⟨⟨a1, a2⟩, b1, b2⟩] at h
  rw [C.P (by omega) (by omega)]
  exact ⟨by omega, ⟨by omega, by omega, by omega⟩, h μ FC.rf C⟩
theorem p_tieOf {d : Nat} {μ : mzM} {w : Wd} {q : Int → Int → mzM → Prop} {f t : Int} (R : RW μ w) (h : ∀ a μ' w', RW μ' w' → q a a μ') : mzCl (d + 3) 136 [mzR 14, mzI f, mzI t] μ (mzQi fun a m1 => mzCl (d + 3) 29 [mzR 0, mzI f, mzI t] m1 (mzQi fun c m2 => q a c m2)) :=
  pair (toS w f t) R R.1 (fun q' z => k_tieOf R.1 R.2.2.1 z) (fun m1 q' _ I z => c_tieOf R.1 I z) h
/-- cut -/
def cuS (w : Wd) (f t : Int) : Int × Wd := if (0 ≤ f ∧ f < wN w) ∧ (0 ≤ t ∧ t < wN w) then (if wP w f.toNat t.toNat = 0 then (-1000004, w) else (wE w - 1, setP w f.toNat t.toNat 0 (wE w - 1))) else (-1000001, w)
theorem cuS_ok {w : Wd} {f t : Int} (h : WOk w) : WOk (cuS w f t).2 := by
  unfold cuS
  split
  · split
    · exact h
    · rename_i c c2
      have := h.E
      refine setP_ok h (by omega) (by omega) (by omega) (by omega) ?_
      rw [if_neg c2, if_pos rfl]
      omega
  · exact h
theorem MW.setE {μ : mzM} {w : Wd} {e : Int} (h : MW μ 1 w) : MW (mzS μ 1 1 e) 1 (wN w, wT w, wP w, e, w.2.2.2.2) := by
  obtain ⟨g0, g1, g2, g3, g4, g5, g6, g7⟩ := h
  refine ⟨?_, S_eq, ?_, ?_, fun p t' hp ht' => ?_, fun f' t' hf' ht' => ?_, fun i hi => ⟨?_, ?_⟩, fun i hi => ?_⟩
  · rw [S_ne (by omega)]; exact g0
  · rw [S_ne (by omega)]; exact g2
  · rw [S_ne (by omega)]; exact g3
  · rw [S_ne (by omega)]; exact g4 p t' hp ht'
  · rw [S_ne (by omega)]; exact g5 f' t' hf' ht'
  · rw [S_ne (by omega)]; exact (g6 i hi).1
  · rw [S_ne (by omega)]; exact (g6 i hi).2
  · rw [S_ne (by omega)]; exact g7 i hi
theorem c_cut {d : Nat} {q : Int → mzM → Prop} {f t : Int} {μ : mzM} {w : Wd} (hW : WOk w) (I : MI μ w) (h : ∀ μ', FM μ μ' → MI μ' (cuS w f t).2 → q (cuS w f t).1 μ') : mzCl (d + 3) 30 [mzR 0, mzI f, mzI t] μ (mzQi q) := by
  unfold cuS at h
  have hN := hW.1
  have hE := hW.E
  refine g30_e _ _ _ (c_isPlace I.1.1 hW.1 (fun a1 a2 => ⟨fun z => absurd z (by decide), fun _ => c_isPlace I.1.1 hW.1 (fun b1 b2 => ⟨fun _ => ?_, fun z => absurd z (by decide)⟩) (fun b => ⟨fun z => absurd rfl z, fun _ => c_fd (by omega) I (by rw [if_neg (by omega)] at h; exact h)⟩)⟩) (fun a => ⟨fun _ => c_fd (by omega) I (by rw [if_neg (by omega)] at h; exact h), fun z => absurd rfl z⟩))
  rw [if_pos ⟨⟨a1, a2⟩, b1, b2⟩] at h
  obtain ⟨f, rfl⟩ : ∃ n : Nat, f = n := ⟨f.toNat, by omega⟩
  obtain ⟨t, rfl⟩ : ∃ n : Nat, t = n := ⟨t.toNat, by omega⟩
  rw [Int.toNat_natCast, Int.toNat_natCast] at h
  rw [w12c (by omega) (by omega), Int.toNat_natCast, I.1.P (by omega) (by omega)]
  refine ⟨by omega, fun z => ?_, fun z => c_fd (by omega) I (by rw [if_pos z] at h; exact h)⟩
  rw [if_neg z] at h
  have m := I.1.setP (f := f) (t := t) (v := 0) (e := wE w) hN (by omega) (by omega)
  rw [S_id I.1.2.1] at m
  refine c_bec (j := 124 + 12 * f + t) rfl (by omega) m (fun μ' f' i g => ⟨by omega, by omega, by omega, ?_⟩)
  rw [show μ' 1 1 = wE w by rw [g 1 1 (by omega) (by omega)]; exact I.1.2.1, wid (by omega) (by omega)]
  exact h _ (f'.st (by unfold scM; omega)) ⟨i.1.setE, FR.r i.2 rfl rfl rfl (S_ne (by omega)) (fun _ => S_ne (by omega))⟩
theorem k_cut {d : Nat} {q : Int → mzM → Prop} {f t : Int} {μ : mzM} {w : Wd} (hW : WOk w) (C : CW μ 0 w) (h : ∀ μ', FC μ μ' → CW μ' 0 (cuS w f t).2 → q (cuS w f t).1 μ') : mzCl (d + 1) 137 [mzR 14, mzI f, mzI t] μ (mzQi q) := by
  unfold cuS at h
  have hN := hW.1
  have hE := hW.E
  refine g137_e _ _ _ (k_isPlace C.1 (fun a1 a2 => ⟨fun z => absurd z (by decide), fun _ => k_isPlace C.1 (fun b1 b2 => ⟨fun _ => ?_, fun z => absurd z (by decide)⟩) (fun b => ⟨fun z => absurd rfl z, fun _ => k_fd (by omega) hW.1 C (by rw [if_neg (by omega)] at h; exact h)⟩)⟩) (fun a => ⟨fun _ => k_fd (by omega) hW.1 C (by rw [if_neg (by omega)] at h; exact h), fun z => absurd rfl z⟩))
  rw [if_pos ⟨⟨a1, a2⟩, b1, b2⟩] at h
  rw [C.P (by omega) (by omega)]
  refine ⟨by omega, ⟨by omega, by omega, by omega⟩, fun z => ⟨by omega, ⟨by omega, by omega, by omega⟩, ?_⟩, fun z => k_fd (by omega) hW.1 C (by rw [if_pos z] at h; exact h)⟩
  rw [if_neg z] at h
  rw [S_ne (k := 88 + f.toNat) (a := 26) (by omega), C.E, wid (by omega) (by omega), S_cm (by omega)]
  exact h _ ((FC.rf.st (by unfold scC isW; omega)).st (by unfold scC isW; omega)) (C.setP hN (by omega))
theorem p_cut {d : Nat} {μ : mzM} {w : Wd} {q : Int → Int → mzM → Prop} {f t : Int} (R : RW μ w) (h : ∀ a μ' w', RW μ' w' → q a a μ') : mzCl (d + 3) 137 [mzR 14, mzI f, mzI t] μ (mzQi fun a m1 => mzCl (d + 3) 30 [mzR 0, mzI f, mzI t] m1 (mzQi fun c m2 => q a c m2)) :=
  pair (cuS w f t) R (cuS_ok R.1) (fun q' z => k_cut R.1 R.2.2.1 z) (fun m1 q' _ I z => c_cut R.1 I z) h
/-- hold -/
def hoS (w : Wd) (p i : Int) : Int × Wd := if 0 ≤ p ∧ p < wN w then (wT w p.toNat 9, setT w p.toNat 9 (if i = 0 then 0 else 1)) else (-1000001, w)
theorem hoS_ok {w : Wd} {p i : Int} (h : WOk w) : WOk (hoS w p i).2 := by
  unfold hoS
  split
  · have e1 : tlo 9 = 0 := rfl
    have e2 : thi (wN w) 9 = 1 := by simp [thi]
    exact setT_ok h (by omega) (by split <;> omega)
  · exact h
theorem c_hold {d : Nat} {q : Int → mzM → Prop} {p i : Int} {μ : mzM} {w : Wd} (hW : WOk w) (I : MI μ w) (h : ∀ μ', FM μ μ' → MI μ' (hoS w p i).2 → q (hoS w p i).1 μ') : mzCl (d + 2) 31 [mzR 0, mzI p, mzI i] μ (mzQi q) := by
  unfold hoS at h
  have hN := hW.1
  refine g31_e _ _ _ (c_isPlace I.1.1 hW.1 (fun a1 a2 => ⟨fun z => absurd z (by decide), fun _ => ?_⟩) (fun a => ⟨fun _ => c_fd (by omega) I (by rw [if_neg (by omega)] at h; exact h), fun z => absurd rfl z⟩))
  rw [if_pos ⟨a1, a2⟩] at h
  obtain ⟨p, rfl⟩ : ∃ n : Nat, p = n := ⟨p.toNat, by omega⟩
  rw [Int.toNat_natCast] at h
  have hp : p < wN w := by omega
  refine ⟨fun z => ?_, fun z => ?_⟩
  · rw [if_pos z] at h
    refine c_bec (j := 4 + 10 * p + 9) (w10p (by omega) rfl (by omega)) (by omega) (I.setT hW hp (by omega)) (fun μ' f i _ => ?_)
    rw [I.1.T hp (by omega)]
    exact h μ' f i
  · rw [if_neg z] at h
    refine c_bec (j := 4 + 10 * p + 9) (w10p (by omega) rfl (by omega)) (by omega) (I.setT hW hp (by omega)) (fun μ' f i _ => ?_)
    rw [I.1.T hp (by omega)]
    exact h μ' f i
theorem hB_set {w : Wd} {p : Nat} {i : Int} (hp : p < wN w) : hw (setT w p 9 (if i = 0 then 0 else 1)) = if i = 0 then nd (hw w) (2 ^ p) else hw w ||| 2 ^ p := by
  refine Nat.eq_of_testBit_eq (fun b => ?_)
  show (hB (setT w p 9 (if i = 0 then 0 else 1)).2.1 (wN w)).testBit b = _
  rw [hB_mk, mk_bit]
  have e : ∀ x : Nat, (hw w).testBit x = (decide (x < wN w) && decide (wT w x 9 ≠ 0)) := fun x => by rw [hw, hB_mk, mk_bit]
  show (decide (b < wN w) && decide ((if b = p ∧ 9 = 9 then (if i = 0 then (0 : Int) else 1) else wT w b 9) ≠ 0)) = _
  by_cases c : i = 0
  · rw [if_pos c, if_pos c, nd_bit, Nat.testBit_two_pow, e]
    by_cases c2 : b = p
    · rw [if_pos ⟨c2, rfl⟩, c2]; simp
    · rw [if_neg (fun z => c2 z.1), decide_eq_false (p := p = b) (fun z => c2 z.symm)]; simp
  · rw [if_neg c, if_neg c, Nat.testBit_or, Nat.testBit_two_pow, e]
    by_cases c2 : b = p
    · rw [if_pos ⟨c2, rfl⟩, c2]; simp [hp]
    · rw [if_neg (fun z => c2 z.1), decide_eq_false (p := p = b) (fun z => c2 z.symm)]; simp
theorem CW_hold {μ : mzM} {w : Wd} {p : Nat} {i : Int} {v : Int} (hW : WOk w) (C : CW μ 0 w) (hp : p < wN w) (hv : v = (if i = 0 then nd (hw w) (2 ^ p) else hw w ||| 2 ^ p : Nat)) : CW (mzS μ 26 3 v) 0 (setT w p 9 (if i = 0 then 0 else 1)) := by
  obtain ⟨g0, g1, g2, g3, g4, g5, g6, g7, g8⟩ := id C
  refine C.put (Or.inl rfl) ?_ ?_ ?_ ?_ ?_ rfl hW.1 (fun a t ht => ?_) (fun _ _ => rfl) (fun j hj => ⟨?_, ?_⟩) (fun j hj => ?_)
  · rw [S_ne (by omega)]; exact g0
  · rw [S_ne (by omega)]; exact g1
  · rw [S_ne (by omega)]; exact g2
  · rw [S_eq, hv]
    exact congrArg _ (hB_set hp).symm
  · rw [S_ne (by omega)]; exact g4
  · exact if_neg (by omega)
  · rw [S_ne (by omega)]; exact (g7 j hj).1
  · rw [S_ne (by omega)]; exact (g7 j hj).2
  · rw [S_ne (by omega)]; exact g8 j hj
theorem k_hold {d : Nat} {q : Int → mzM → Prop} {p i : Int} {μ : mzM} {w : Wd} (hW : WOk w) (C : CW μ 0 w) (h : ∀ μ', FC μ μ' → CW μ' 0 (hoS w p i).2 → q (hoS w p i).1 μ') : mzCl (d + 1) 138 [mzR 14, mzI p, mzI i] μ (mzQi q) := by
  unfold hoS at h
  have hN := hW.1
  have hl := hw_lt hW
  refine g138_e _ _ _ (k_isPlace C.1 (fun a1 a2 => ⟨fun _ => ?_, fun z => absurd z (by decide)⟩) (fun a => ⟨fun z => absurd rfl z, fun _ => k_fd (by omega) hW.1 C (by rw [if_neg (by omega)] at h; exact h)⟩))
  rw [if_pos ⟨a1, a2⟩] at h
  obtain ⟨p, rfl⟩ : ∃ n : Nat, p = n := ⟨p.toNat, by omega⟩
  rw [Int.toNat_natCast] at h
  have hp : p < wN w := by omega
  have e3 : μ 26 3 = (hw w : Int) := C.2.2.2.1
  have hp2 : 2 ^ p < 4096 := by have := Nat.pow_lt_pow_right (a := 2) (by omega) (show p < 12 by omega); omega
  rw [T9 hW hp, ← nBit (a := hw w) (p := p) (by omega) (by omega)] at h
  rw [e3, nPow (by omega), nNot (by omega), nOr (by omega) (by omega)]
  refine ⟨fun z => ?_, fun z => ?_⟩
  · exact h _ (FC.rf.st (by unfold scC isW; omega)) (CW_hold hW C hp (by rw [if_pos z]))
  · exact h _ (FC.rf.st (by unfold scC isW; omega)) (CW_hold hW C hp (by rw [if_neg z]))
theorem p_hold {d : Nat} {μ : mzM} {w : Wd} {q : Int → Int → mzM → Prop} {p i : Int} (R : RW μ w) (h : ∀ a μ' w', RW μ' w' → q a a μ') : mzCl (d + 2) 138 [mzR 14, mzI p, mzI i] μ (mzQi fun a m1 => mzCl (d + 2) 31 [mzR 0, mzI p, mzI i] m1 (mzQi fun c m2 => q a c m2)) :=
  pair (hoS w p i) R (hoS_ok R.1) (fun q' z => k_hold R.1 R.2.2.1 z) (fun m1 q' _ I z => c_hold R.1 I z) h
