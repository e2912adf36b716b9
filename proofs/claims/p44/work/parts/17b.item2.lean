/-! THE REFERENCE'S ITEMS, two -/
theorem MW.wr8 {m : mzM} {w : Wd} {v : Int} (h : MW m 1 w) (hn : wN w ≤ 11) : MW (mzS (mzS (mzS (mzS (mzS (mzS (mzS (mzS (mzS m 1 (4 + 10 * wN w + 1) v) 1 (4 + 10 * wN w + 2) 0) 1 (4 + 10 * wN w + 3) 0) 1 (4 + 10 * wN w + 4) 1) 1 (4 + 10 * wN w + 5) 1) 1 (4 + 10 * wN w + 6) 0) 1 (4 + 10 * wN w + 7) (-1)) 1 (4 + 10 * wN w + 8) 0) 1 (4 + 10 * wN w + 9) 0) 1 w := ((((((((h.wr hn (by omega)).wr hn (by omega)).wr hn (by omega)).wr hn (by omega)).wr hn (by omega)).wr hn (by omega)).wr hn (by omega)).wr hn (by omega)).wr hn (by omega)
theorem XpM.wr8 {μ m : mzM} {n : Nat} {v : Int} (h : XpM μ m) : XpM μ (mzS (mzS (mzS (mzS (mzS (mzS (mzS (mzS (mzS m 1 (4 + 10 * n + 1) v) 1 (4 + 10 * n + 2) 0) 1 (4 + 10 * n + 3) 0) 1 (4 + 10 * n + 4) 1) 1 (4 + 10 * n + 5) 1) 1 (4 + 10 * n + 6) 0) 1 (4 + 10 * n + 7) (-1)) 1 (4 + 10 * n + 8) 0) 1 (4 + 10 * n + 9) 0) := h.st1.st1.st1.st1.st1.st1.st1.st1.st1
theorem k0_wr8 {m : mzM} {n j : Nat} {v : Int} : (mzS (mzS (mzS (mzS (mzS (mzS (mzS (mzS (mzS m 1 (4 + 10 * n + 1) v) 1 (4 + 10 * n + 2) 0) 1 (4 + 10 * n + 3) 0) 1 (4 + 10 * n + 4) 1) 1 (4 + 10 * n + 5) 1) 1 (4 + 10 * n + 6) 0) 1 (4 + 10 * n + 7) (-1)) 1 (4 + 10 * n + 8) 0) 1 (4 + 10 * n + 9) 0) 0 j = m 0 j := by simp [mzS]
theorem TkM'.wr8 {m : mzM} {n : Nat} {v : Int} {t : TT} (h : TkM' m t) : TkM' (mzS (mzS (mzS (mzS (mzS (mzS (mzS (mzS (mzS m 1 (4 + 10 * n + 1) v) 1 (4 + 10 * n + 2) 0) 1 (4 + 10 * n + 3) 0) 1 (4 + 10 * n + 4) 1) 1 (4 + 10 * n + 5) 1) 1 (4 + 10 * n + 6) 0) 1 (4 + 10 * n + 7) (-1)) 1 (4 + 10 * n + 8) 0) 1 (4 + 10 * n + 9) 0) t := by
  unfold TkM' at h ⊢
  simp only [k0_wr8]
  exact h
/-- behind the loop over the words, all well -/
theorem pl_end {d : Nat} {q : mzM → Prop} {w : Wd} {r : Nat → Int} {t : TT} {μ : mzM} (hn : wN w ≤ 11) (hK : wK w ≤ 20) (hw : MW μ 1 w) (hr : RoM μ (wN w) r) (hk : TkM' μ t) (h : ∀ μ', (∀ k j, k ≠ 1 → μ' k j = μ k j) → MW μ' 1 (addW w r) → TkM' μ' t → q μ') : mzWp (d + 1) 18 315 [mzR 0, none, none, none, mzI 0] [] μ (mzQv q) := by
  refine pl_315 hn hw.1 (fun μ' h1 h2 h3 h4 => h μ' h1 ?_ ?_) 12 0 0 μ rfl rfl (fun _ _ _ => rfl) hw.1 (fun _ _ _ => rfl) (fun f t hf ht => by rw [if_neg (by omega)])
  · obtain ⟨g0, g1, g2, g3, g4, g5, g6, g7⟩ := hw
    refine ⟨h2, ?_, ?_, ?_, fun p t hp ht => ?_, fun f t hf ht => ?_, fun i hi => ⟨?_, ?_⟩, fun i hi => ?_⟩
    · rw [h3 1 (by omega) (by omega)]; exact g1
    · rw [h3 2 (by omega) (by omega)]; exact g2
    · rw [h3 3 (by omega) (by omega)]; exact g3
    · have hp2 : p < wN w + 1 := hp
      rw [h3 _ (by omega) (by omega)]
      show _ = (if p = wN w then r else wT w p) t
      by_cases e : p = wN w
      · rw [if_pos e, e]; exact hr t ht
      · rw [if_neg e]; exact g4 p t (by omega) ht
    · have hf2 : f < wN w + 1 := hf
      have ht2 : t < wN w + 1 := ht
      rw [h4 f t (by omega) (by omega)]
      show _ = if f = wN w ∨ t = wN w then 0 else wP w f t
      by_cases e : f = wN w ∨ t = wN w
      · rw [if_pos e, if_pos e]
      · rw [if_neg e, if_neg e]; exact g5 f t (by omega) (by omega)
    · have hi2 : i < wK w := hi
      rw [h3 _ (by omega) (by omega)]; exact (g6 i hi2).1
    · have hi2 : i < wK w := hi
      rw [h3 _ (by omega) (by omega)]; exact (g6 i hi2).2
    · rw [h3 _ (by omega) (by omega)]; exact g7 i hi
  · unfold TkM' at hk ⊢
    rw [h1 0 7 (by omega), h1 0 8 (by omega), h1 0 9 (by omega), h1 0 10 (by omega)]
    exact hk
/-- behind the loop over the words, with a fault -/
theorem pl_bad {d : Nat} {q : mzM → Prop} {n : Nat} {μ : mzM} (hn : n ≤ 11) (h0 : μ 1 0 = n) (h : ∀ μ', (∀ k j, k ≠ 1 → μ' k j = μ k j) → q μ') : mzWp (d + 1) 18 315 [mzR 0, none, none, none, mzI 0] [] μ (mzQv q) :=
  pl_315 hn h0 (fun μ' h1 _ _ _ => h μ' h1) 12 0 0 μ rfl rfl (fun _ _ _ => rfl) h0 (fun _ _ _ => rfl) (fun f t hf ht => by rw [if_neg (by omega)])
theorem c_placeItem {d : Nat} {q : mzM → Prop} {b : Nat → Int} {len p : Nat} {w : Wd} {μ : mzM} (hl : len ≤ 120) (hp : p ≤ len) (hK : wK w ≤ 20) (ht : TpM μ b len) (hk : TkM' μ (tk b len p)) (hb : μ 0 11 = 0) (hw : MW μ 1 w) (hn : wN w ≤ 12)
    (hok : (plS b len w p).1 = true → ∀ μ', XpM μ μ' → μ' 0 11 = 0 → MW μ' 1 (plS b len w p).2.2 → TkM' μ' (tk b len (plS b len w p).2.1) → q μ')
    (hno : (plS b len w p).1 = false → ∀ μ', XpM μ μ' → μ' 0 11 = 1 → μ' 0 8 = (tk b len (plS b len w p).2.1).2.1 → q μ') : mzCl (d + 4) 18 [mzR 0] μ (mzQv q) := by
  have bd := tk_bd (b := b) hp
  have no : ∀ {k : Int}, plS b len w p = (false, p, w) → mzWp (d + 4) 18 36 [mzR 0, mzI k, none, none, none] [] (mzS μ 0 11 1) (mzQv q) := fun e => g18_36 _ _ ⟨fun z => absurd (S_eq.symm.trans z) (by decide), fun _ => hno (by rw [e]) _ (XpM.rf.st (by omega)) S_eq (by rw [e, S_ne (by omega)]; exact hk.2.1)⟩
  refine g18_e _ (c_kindHere hl ht hk (by omega) (by omega) hb (fun k hk0 => ⟨fun z => absurd hb z, fun _ => ⟨fun z => by omega, fun _ => ⟨⟨by omega, by omega⟩, fun z => ⟨or00, ?_⟩, fun z => ⟨or10, no (plS_f hk0 (by have := hw.1; omega))⟩⟩⟩⟩) (fun hk0 => ⟨fun z => absurd hb z, fun _ => ⟨fun _ => ⟨or10, no (plS_n hk0)⟩, fun z => absurd z (by decide)⟩⟩))
  have hn2 : wN w ≤ 11 := by have := hw.1; omega
  have hn3 : wN w ≠ 12 := by omega
  refine g18_36 _ _ ⟨fun _ => ?_, fun z => absurd S_eq z⟩
  have x0 : XpM μ (mzS μ 0 11 0) := XpM.rf.st (by omega)
  have bd1 := tk_bd (b := b) (len := len) (pos := (tk b len p).2.2.1) (by omega)
  refine c_next (pos := (tk b len p).2.2.1) hl (by omega) (by rw [S_ne (by omega)]; exact hk.2.2.1) (x0.tp ht) (fun m1 x1 k1 => ?_)
  have hw1 := x1.cg hw.st0
  have ew : mzW (4 + (mzW (10 * (m1 1 0)))) = ((4 + 10 * wN w : Nat) : Int) := by rw [hw1.1]; exact w10 hn
  have ew1 : mzW (((4 + 10 * wN w : Nat) : Int) + 1) = ((4 + 10 * wN w + 1 : Nat) : Int) := w10c (c := 1) hn (by omega)
  rw [ew, ew1, Int.toNat_natCast, Int.toNat_natCast]
  have x2 : XpM μ (mzS m1 1 (4 + 10 * wN w) k) := (x0.tr x1.p).st1
  have hw2 : MW (mzS m1 1 (4 + 10 * wN w) k) 1 w := hw1.wr (t := 0) hn2 (by omega)
  have b2 : mzS m1 1 (4 + 10 * wN w) k 0 11 = 0 := by rw [S_ne (by omega), x1 0 11 (by omega), S_eq]
  refine ⟨⟨by omega, by omega⟩, ⟨by omega, by omega⟩, ?_⟩
  refine c_number (b := b) (len := len) (t := tk b len (tk b len p).2.2.1) hl (x2.tp ht) (k1.st (by omega)) bd1.2.2.1 b2 (by omega) (by omega) (fun y1 y2 y3 m2 y4 y5 => ⟨⟨by omega, by omega⟩, pl_82 hn ?_⟩) (fun y v => ⟨⟨by omega, by omega⟩, pl_82 hn ?_⟩)
  · have e2 := plS_s hk0 hn3 ⟨y1, by omega, by omega⟩
    rw [e2] at hok hno
    have x3 : XpM μ m2 := (x2.st (by omega)).tr y4.p
    have x4 := x3.wr8 (n := wN w) (v := ((tk b len (tk b len p).2.2.1).2.2.2 : Int))
    have ek : m2 1 (4 + 10 * wN w) = k := by rw [y4 1 _ (by omega), S_ne (by omega), S_eq]
    refine pl_opt hl hn2 rfl 121 _ (row0 k (tk b len (tk b len p).2.2.1).2.2.2) _ (by omega) bd1.2.2.1 (x4.tp ht) y5.wr8 ?_ ((y4.cg hw2.st0).wr8 hn2) (ro_row0 ek) (fun g μ2 z1 z2 z3 z4 z5 => ?_) (fun g μ2 z1 z2 z3 z4 => ?_)
    · rw [k0_wr8, y4 0 11 (by omega), S_eq]
    · refine pl_end hn2 hK z3 z4 z5 (fun μ3 a1 a2 a3 => hok g μ3 (fun k j hkj hk1 => (a1 k j hk1).trans ((x4.tr z1) k j hkj hk1)) ?_ a2 a3)
      rw [a1 0 11 (by omega)]; exact z2
    · refine pl_bad hn2 z3 (fun μ3 a1 => hno g μ3 (fun k j hkj hk1 => (a1 k j hk1).trans ((x4.tr z1) k j hkj hk1)) ?_ ?_)
      · rw [a1 0 11 (by omega)]; exact z2
      · rw [a1 0 8 (by omega)]; exact z4
  · have e2 := plS_x hk0 hn3 (fun c => y ⟨c.1, by omega, by omega⟩)
    rw [e2] at hno
    have x3 := ((x2.st (by omega) : XpM μ (mzS (mzS m1 1 (4 + 10 * wN w) k) 0 11 1))).wr8 (n := wN w) (v := v)
    refine g18_160 _ _ _ ⟨fun z => absurd z (by decide), fun _ => ⟨fun _ => ?_, fun z => ?_⟩⟩
    · refine pl_bad hn2 ((hw2.st0.wr8 hn2).1) (fun μ3 a1 => hno rfl μ3 (fun k j hkj hk1 => (a1 k j hk1).trans (x3 k j hkj hk1)) ?_ ?_)
      · rw [a1 0 11 (by omega), k0_wr8, S_eq]
      · rw [a1 0 8 (by omega), k0_wr8, S_ne (by omega), S_ne (by omega)]; exact k1.2.1
    · rw [k0_wr8, S_eq] at z
      exact absurd z (by decide)
