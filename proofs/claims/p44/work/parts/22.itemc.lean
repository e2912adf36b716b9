/-! THE CLASS'S WORLDS AND ITEMS -/
/-- who is held, as a set -/
def hB (T : Nat → Nat → Int) : Nat → Nat
  | 0 => 0
  | k + 1 => hB T k ||| if T k 9 = 0 then 0 else 2 ^ k
def CB (μ : mzM) (j : Nat) (w : Wd) : Prop := μ (26 + j) 1 = wE w ∧ μ (26 + j) 2 = wK w ∧ μ (26 + j) 3 = (hB (wT w) (wN w) : Nat) ∧ μ (26 + j) 4 = wZ w ∧ (∀ p t, p < wN w → t < 9 → μ (52 + 12 * j + p) t = wT w p t) ∧ (∀ f t, f < 12 → t < 12 → μ (88 + 12 * j + f) t = wP w f t) ∧ (∀ i, i < wK w → μ (35 + j) i = wY w i ∧ μ (38 + j) i = wL w i) ∧ (∀ i, i < 10 → μ (41 + j) i = wS w i)
/-- the class's world j holds w -/
def CW (μ : mzM) (j : Nat) (w : Wd) : Prop := μ (26 + j) 0 = wN w ∧ CB μ j w
/-- the places of a class's world -/
def isW (j k : Nat) : Prop := k = 26 + j ∨ k = 35 + j ∨ k = 38 + j ∨ k = 41 + j ∨ (52 + 12 * j ≤ k ∧ k < 64 + 12 * j) ∨ (88 + 12 * j ≤ k ∧ k < 100 + 12 * j)
theorem CW.cg {μ μ' : mzM} {j : Nat} {w : Wd} (h : CW μ j w) (hN : wN w ≤ 12) (e : ∀ k i, isW j k → μ' k i = μ k i) : CW μ' j w := by
  obtain ⟨h0, h1, h2, h3, h4, h5, h6, h7, h8⟩ := h
  unfold isW at e
  refine ⟨?_, ?_, ?_, ?_, ?_, fun p t hp ht => ?_, fun f t hf ht => ?_, fun i hi => ⟨?_, ?_⟩, fun i hi => ?_⟩
  · rw [e _ _ (by omega)]; exact h0
  · rw [e _ _ (by omega)]; exact h1
  · rw [e _ _ (by omega)]; exact h2
  · rw [e _ _ (by omega)]; exact h3
  · rw [e _ _ (by omega)]; exact h4
  · rw [e _ _ (by omega)]; exact h5 p t hp ht
  · rw [e _ _ (by omega)]; exact h6 f t hf ht
  · rw [e _ _ (by omega)]; exact (h7 i hi).1
  · rw [e _ _ (by omega)]; exact (h7 i hi).2
  · rw [e _ _ (by omega)]; exact h8 i hi
/-- the class reads a text: the reader's own fields and the third world's places, traits, ties and parts -/
def XdC (μ μ' : mzM) : Prop := ∀ k j, (k ≠ 23 ∨ j < 2 ∨ 5 < j) → (k ≠ 28 ∨ 1 < j) → (k < 76 ∨ 87 < k) → (k < 112 ∨ 123 < k) → μ' k j = μ k j
theorem XdC.rf {μ : mzM} : XdC μ μ := fun _ _ _ _ _ _ => rfl
theorem XdC.tr {μ μ' μ'' : mzM} (h : XdC μ μ') (h2 : XdC μ' μ'') : XdC μ μ'' := fun a b h1 a2 a3 a4 => (h2 a b h1 a2 a3 a4).trans (h a b h1 a2 a3 a4)
theorem XtC.d {μ μ' : mzM} (h : XtC μ μ') : XdC μ μ' := fun k j h1 _ _ _ => h k j h1
theorem XdC.tp {μ μ' : mzM} {b : Nat → Int} {len : Nat} (h : XdC μ μ') (ht : TpC μ b len) : TpC μ' b len := ⟨by rw [h 23 1 (by omega) (by omega) (by omega) (by omega)]; exact ht.1, fun i hi => by rw [h 24 i (by omega) (by omega) (by omega) (by omega)]; exact ht.2 i hi⟩
theorem XdC.st {μ μ' : mzM} {k j : Nat} {v : Int} (h : XdC μ μ') (hk : (76 ≤ k ∧ k ≤ 87) ∨ (112 ≤ k ∧ k ≤ 123) ∨ (k = 28 ∧ j ≤ 1)) : XdC μ (mzS μ' k j v) := fun a b h1 h2 h3 h4 => by
  rw [S_ne (by omega)]
  exact h a b h1 h2 h3 h4
theorem TkC.st {μ : mzM} {t : TT} {k j : Nat} {v : Int} (h : TkC μ t) (hj : k ≠ 23) : TkC (mzS μ k j v) t := by
  unfold TkC at h ⊢
  rw [S_ne (by omega), S_ne (by omega), S_ne (by omega), S_ne (by omega)]
  exact h
theorem CB.x {μ μ' : mzM} {w : Wd} (h : CB μ 2 w) (x : XtC μ μ') (hN : wN w ≤ 12) : CB μ' 2 w := by
  obtain ⟨h1, h2, h3, h4, h5, h6, h7, h8⟩ := h
  refine ⟨?_, ?_, ?_, ?_, fun p t hp ht => ?_, fun f t hf ht => ?_, fun i hi => ⟨?_, ?_⟩, fun i hi => ?_⟩
  · rw [x _ _ (by omega)]; exact h1
  · rw [x _ _ (by omega)]; exact h2
  · rw [x _ _ (by omega)]; exact h3
  · rw [x _ _ (by omega)]; exact h4
  · rw [x _ _ (by omega)]; exact h5 p t hp ht
  · rw [x _ _ (by omega)]; exact h6 f t hf ht
  · rw [x _ _ (by omega)]; exact (h7 i hi).1
  · rw [x _ _ (by omega)]; exact (h7 i hi).2
  · rw [x _ _ (by omega)]; exact h8 i hi
theorem CW.x {μ μ' : mzM} {w : Wd} (h : CW μ 2 w) (x : XtC μ μ') (hN : wN w ≤ 12) : CW μ' 2 w := ⟨by rw [x _ _ (by omega)]; exact h.1, h.2.x x hN⟩
/-- a change in the row of the place behind the last, or of the number of places -/
theorem CB.rw {μ μ' : mzM} {w : Wd} (h : CB μ 2 w) (hN : wN w < 12) (x : ∀ a j, (a ≠ 28 ∨ j ≠ 0) → a ≠ 76 + wN w → μ' a j = μ a j) : CB μ' 2 w := by
  obtain ⟨h1, h2, h3, h4, h5, h6, h7, h8⟩ := h
  refine ⟨?_, ?_, ?_, ?_, fun p t hp ht => ?_, fun f t hf ht => ?_, fun i hi => ⟨?_, ?_⟩, fun i hi => ?_⟩
  · rw [x _ _ (by omega) (by omega)]; exact h1
  · rw [x _ _ (by omega) (by omega)]; exact h2
  · rw [x _ _ (by omega) (by omega)]; exact h3
  · rw [x _ _ (by omega) (by omega)]; exact h4
  · rw [x _ _ (by omega) (by omega)]; exact h5 p t hp ht
  · rw [x _ _ (by omega) (by omega)]; exact h6 f t hf ht
  · rw [x _ _ (by omega) (by omega)]; exact (h7 i hi).1
  · rw [x _ _ (by omega) (by omega)]; exact (h7 i hi).2
  · rw [x _ _ (by omega) (by omega)]; exact h8 i hi
def RoC (μ : mzM) (n : Nat) (r : Nat → Int) : Prop := ∀ t, t < 9 → μ (76 + n) t = r t
theorem RoC.wr {μ : mzM} {n tr : Nat} {r : Nat → Int} {v : Int} (h : RoC μ n r) : RoC (mzS μ (76 + n) tr v) n (fun t => if t = tr then v else r t) := fun t ht => by
  show _ = if t = tr then v else r t
  by_cases c : t = tr
  · rw [if_pos c, c, S_eq]
  · rw [if_neg c, S_ne (by omega)]; exact h t ht
theorem XtC.ro {μ μ' : mzM} {n : Nat} {r : Nat → Int} (x : XtC μ μ') (h : RoC μ n r) : RoC μ' n r := fun t ht => by rw [x _ _ (by omega)]; exact h t ht
theorem hB_cg {T T' : Nat → Nat → Int} {k : Nat} (h : ∀ p, p < k → T p 9 = T' p 9) : hB T k = hB T' k := by
  induction k with
  | zero => rfl
  | succ k ih => unfold hB; rw [ih (fun p hp => h p (by omega)), h k (by omega)]
theorem opS_9 {b : Nat → Int} {len : Nat} : ∀ (f p : Nat) (r : Nat → Int), (opS b len f p r).2.2 9 = r 9 := by
  intro f
  induction f with
  | zero => intro p r; rfl
  | succ f ih =>
    intro p r
    cases e : td b (tk b len p) with
    | none => rw [opS_n e]
    | some tr =>
      by_cases c : (tk b len (tk b len p).2.2.1).1 = 2 ∧ lo tr ≤ (tk b len (tk b len p).2.2.1).2.2.2 ∧ (tk b len (tk b len p).2.2.1).2.2.2 ≤ hi tr
      · rw [opS_s e c, ih]
        have := td_le e
        exact if_neg (by omega)
      · rw [opS_x e c]
theorem cst_lohi {tr : Nat} (h : 2 ≤ tr ∧ tr ≤ 6) : mzCst 201 tr = lo tr ∧ mzCst 202 tr = hi tr := by
  have c : tr = 2 ∨ tr = 3 ∨ tr = 4 ∨ tr = 5 ∨ tr = 6 := by omega
  rcases c with rfl | rfl | rfl | rfl | rfl <;> exact ⟨rfl, rfl⟩
/-- the words behind a place -/
theorem kpl_opt {d : Nat} {q : Int → mzM → Prop} {b : Nat → Int} {len : Nat} {w : Wd} (hl : len ≤ 120) (hn : wN w < 12) : ∀ (f p i : Nat) (x4 : Int) (r : Nat → Int) (μ : mzM), len - p < f → p ≤ len → i ≤ p → x4 = i → TpC μ b len → TkC μ (tk b len p) → μ 28 0 = ((wN w + 1 : Nat) : Int) → CB μ 2 w → RoC μ (wN w) r →
    ((opS b len f p r).1 = true → (tk b len (opS b len f p r).2.1).1 ≠ 1 → ∀ μ', XdC μ μ' → μ' 28 0 = ((wN w + 1 : Nat) : Int) → CB μ' 2 w → RoC μ' (wN w) (opS b len f p r).2.2 → TkC μ' (tk b len (opS b len f p r).2.1) → q 1 μ') →
    (((opS b len f p r).1 = false ∨ (tk b len (opS b len f p r).2.1).1 = 1) → ∀ μ', XdC μ μ' → μ' 23 3 = (tk b len (opS b len f p r).2.1).2.1 → q 0 μ') →
    mzWp (d + 3) 117 53 [mzR 23, none, none, mzP 76 (wN w), mzI x4, none] [] μ (mzQi q) := by
  intro f
  induction f with
  | zero => intro p i x4 r μ h; omega
  | succ f ih =>
    intro p i x4 r μ hf hp hi hx ht hk h0 hw hr hok hno
    subst hx
    have bd := tk_bd (b := b) hp
    have bd1 := tk_bd (b := b) (len := len) (pos := (tk b len p).2.2.1) bd.2.2.1
    by_cases c1 : (tk b len p).1 = 1
    · refine g117_53 _ _ _ ⟨fun z => by omega, fun _ => ⟨fun z => absurd (by rw [hk.1, c1]; rfl) z, fun _ => ?_⟩⟩
      refine k_traitHere hl ht hk bd.2.1 bd.2.2.1 (fun tr e => ⟨fun _ => ?_, fun z => by omega⟩) (fun e => ⟨fun z => absurd z (by decide), fun _ => ⟨or00, ?_⟩⟩)
      · have b1 := td_le e
        refine k_next (pos := (tk b len p).2.2.1) hl bd.2.2.1 hk.2.2.1 ht (fun m1 x1 k1 => ⟨by omega, by omega, ?_⟩)
        rw [Int.toNat_natCast, (cst_lohi b1).1, (cst_lohi b1).2]
        have p2 := bd.2.2.2.1 (by rw [c1]; decide)
        refine k_isNumber k1 (fun y1 y2 y3 y4 => ⟨fun _ => ⟨⟨hn, by omega, by omega⟩, ?_⟩, fun z => absurd z (by decide)⟩) (fun y => ⟨fun z => absurd rfl z, fun _ => ⟨or00, ?_⟩⟩)
        · have e2 := opS_s (f := f) (r := r) e ⟨y1, by omega, by omega⟩
          rw [e2] at hok hno
          rw [y4]
          have p3 := bd1.2.2.2.1 (by rw [y1]; decide)
          have x2 : XdC μ (mzS m1 (76 + wN w) tr ((tk b len (tk b len p).2.2.1).2.2.2 : Int)) := x1.d.st (by omega)
          refine k_next (pos := (tk b len (tk b len p).2.2.1).2.2.1) hl bd1.2.2.1 (by rw [S_ne (by omega)]; exact k1.2.2.1) (x2.tp ht) (fun m2 x3 k2 => ?_)
          have x4 : XdC μ m2 := x2.tr x3.d
          refine ih _ (i + 1) _ _ m2 (by omega) bd1.2.2.1 (by omega) (by rw [wid (by omega) (by omega)]; omega) (x4.tp ht) k2 ?_ (((hw.x x1 (by omega)).rw hn (fun a j _ a2 => S_ne (by omega))).x x3 (by omega)) (x3.ro ((x1.ro hr).wr)) (fun g1 g2 μ3 z => hok g1 g2 μ3 (x4.tr z)) (fun g μ3 z => hno g μ3 (x4.tr z))
          rw [x3 _ _ (by omega), S_ne (by omega), x1 _ _ (by omega)]; exact h0
        · have e2 := opS_x (f := f) (r := r) e (fun c => y ⟨c.1, by omega, by omega⟩)
          rw [e2] at hno
          exact hno (Or.inl rfl) m1 x1.d k1.2.1
      · rw [opS_n e] at hno
        exact hno (Or.inr c1) μ XdC.rf hk.2.1
    · have e : td b (tk b len p) = none := by
        cases e : td b (tk b len p) with
        | none => rfl
        | some k => exact absurd (td_1 e) c1
      rw [opS_n e] at hok
      exact g117_53 _ _ _ ⟨fun _ => ⟨or10, hok rfl c1 μ XdC.rf h0 hw hr hk⟩, fun _ => ⟨fun _ => ⟨or10, hok rfl c1 μ XdC.rf h0 hw hr hk⟩, fun z => absurd (by have := hk.1; omega) c1⟩⟩
theorem CB.add {μ : mzM} {w : Wd} {r : Nat → Int} (hW : WOk w) (hn : wN w < 12) (h0 : μ 28 0 = ((wN w + 1 : Nat) : Int)) (hw : CB μ 2 w) (hr : RoC μ (wN w) r) (h9 : r 9 = 0) : CW μ 2 (addW w r) := by
  obtain ⟨h1, h2, h3, h4, h5, h6, h7, h8⟩ := hw
  refine ⟨h0, h1, h2, ?_, h4, fun p t hp ht => ?_, fun f t hf ht => ?_, h7, h8⟩
  · rw [h3]
    show ((hB (wT w) (wN w) : Nat) : Int) = ((hB (wT (addW w r)) (wN w) ||| if (wT (addW w r)) (wN w) 9 = 0 then 0 else 2 ^ wN w : Nat) : Int)
    rw [if_pos (by show (if wN w = wN w then r else wT w (wN w)) 9 = 0; rw [if_pos rfl]; exact h9), Nat.or_zero]
    exact congrArg _ (hB_cg (fun p hp => by show wT w p 9 = (if p = wN w then r else wT w p) 9; rw [if_neg (by omega)]))
  · have hp2 : p < wN w + 1 := hp
    show _ = (if p = wN w then r else wT w p) t
    by_cases c : p = wN w
    · rw [if_pos c, c]; exact hr t ht
    · rw [if_neg c]; exact h5 p t (by omega) ht
  · rw [h6 f t hf ht]
    show _ = if f = wN w ∨ t = wN w then 0 else wP w f t
    by_cases c : f = wN w ∨ t = wN w
    · rw [if_pos c, hW.2.2.2.2.2.2.1 f t (by omega)]
    · rw [if_neg c]
theorem k_readPlace {d : Nat} {q : Int → mzM → Prop} {b : Nat → Int} {len p : Nat} {w : Wd} {μ : mzM} (hl : len ≤ 120) (hp : p ≤ len) (ht : TpC μ b len) (hk : TkC μ (tk b len p)) (hw : CW μ 2 w) (hW : WOk w)
    (hok : (plS b len w p).1 = true → (tk b len (plS b len w p).2.1).1 ≠ 1 → ∀ μ', XdC μ μ' → CW μ' 2 (plS b len w p).2.2 → TkC μ' (tk b len (plS b len w p).2.1) → q 1 μ')
    (hno : ((plS b len w p).1 = false ∨ (tk b len (plS b len w p).2.1).1 = 1) → ∀ μ', XdC μ μ' → μ' 23 3 = (tk b len (plS b len w p).2.1).2.1 → q 0 μ') : mzCl (d + 3) 117 [mzR 23, mzR 28] μ (mzQi q) := by
  have bd := tk_bd (b := b) hp
  have bd1 := tk_bd (b := b) (len := len) (pos := (tk b len p).2.2.1) bd.2.2.1
  have h28 : μ 28 0 = wN w := hw.1
  refine g117_e _ (k_kindHere hl ht hk bd.2.1 bd.2.2.1 (fun k e => ⟨fun z => by omega, fun _ => ⟨fun z => ?_, fun z => ⟨or00, ?_⟩⟩⟩) (fun e => ⟨fun _ => ⟨or00, ?_⟩, fun z => absurd z (by decide)⟩))
  · have hn : wN w < 12 := by omega
    have hn2 : wN w ≠ 12 := by omega
    refine k_next (pos := (tk b len p).2.2.1) hl bd.2.2.1 hk.2.2.1 ht (fun m1 x1 k1 => ?_)
    refine k_isNumber k1 (fun y1 y2 y3 y4 => ⟨fun _ => ?_, fun z => absurd z (by decide)⟩) (fun y => ⟨fun z => absurd rfl z, fun _ => ⟨or00, ?_⟩⟩)
    · have e2 := plS_s e hn2 ⟨y1, by omega, by omega⟩
      rw [e2] at hok hno
      rw [y4]
      have w1 := hw.x x1 (by omega)
      refine k_addPlace hn w1.1 (fun m2 a1 a2 a3 => ⟨rfl, ?_⟩)
      have x2 : XdC μ m2 := fun a j b1 b2 b3 b4 => by rw [a1 a j (by omega) (by omega)]; exact x1 a j b1
      refine k_next (pos := (tk b len (tk b len p).2.2.1).2.2.1) hl bd1.2.2.1 (by rw [a1 23 4 (by omega) (by omega)]; exact k1.2.2.1) (x2.tp ht) (fun m3 x3 k3 => ?_)
      have x4 : XdC μ m3 := x2.tr x3.d
      refine kpl_opt hl hn 121 _ 0 _ (row0 k (tk b len (tk b len p).2.2.1).2.2.2) m3 (by omega) bd1.2.2.1 (Nat.zero_le _) rfl (x4.tp ht) k3 (by rw [x3 _ _ (by omega)]; exact a2) ((w1.2.rw hn a1).x x3 (by omega)) (x3.ro a3) (fun g1 g2 μ3 z z2 z3 z4 z5 => hok g1 g2 μ3 (x4.tr z) (z3.add hW hn z2 z4 ?_) z5) (fun g μ3 z z2 => hno g μ3 (x4.tr z) z2)
      rw [opS_9]
      rfl
    · have e2 := plS_x e hn2 (fun c => y ⟨c.1, by omega, by omega⟩)
      rw [e2] at hno
      exact hno (Or.inl rfl) m1 x1.d k1.2.1
  · rw [plS_f e (by have := hW.1; omega)] at hno
    exact hno (Or.inl rfl) μ XdC.rf hk.2.1
  · rw [plS_n e] at hno
    exact hno (Or.inl rfl) μ XdC.rf hk.2.1
