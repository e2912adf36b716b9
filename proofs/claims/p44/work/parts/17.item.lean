/-! THE REFERENCE'S ITEMS -/
theorem opS_n {b : Nat → Int} {len f p : Nat} {r : Nat → Int} (h : td b (tk b len p) = none) : opS b len (f + 1) p r = (true, p, r) := by
  rw [opS, h]
theorem opS_s {b : Nat → Int} {len f p tr : Nat} {r : Nat → Int} (h : td b (tk b len p) = some tr) (h2 : (tk b len (tk b len p).2.2.1).1 = 2 ∧ lo tr ≤ (tk b len (tk b len p).2.2.1).2.2.2 ∧ (tk b len (tk b len p).2.2.1).2.2.2 ≤ hi tr) : opS b len (f + 1) p r = opS b len f (tk b len (tk b len p).2.2.1).2.2.1 (fun t => if t = tr then ((tk b len (tk b len p).2.2.1).2.2.2 : Int) else r t) := by
  rw [opS, h]
  exact if_pos h2
theorem opS_x {b : Nat → Int} {len f p tr : Nat} {r : Nat → Int} (h : td b (tk b len p) = some tr) (h2 : ¬ ((tk b len (tk b len p).2.2.1).1 = 2 ∧ lo tr ≤ (tk b len (tk b len p).2.2.1).2.2.2 ∧ (tk b len (tk b len p).2.2.1).2.2.2 ≤ hi tr)) : opS b len (f + 1) p r = (false, (tk b len p).2.2.1, r) := by
  rw [opS, h]
  exact if_neg h2
theorem lohi (t : Nat) : lo t ≤ 1 ∧ hi t ≤ 99 := ⟨by unfold lo; split <;> omega, by unfold hi; split; omega; split <;> omega⟩
theorem td_le {b : Nat → Int} {t : TT} {k : Nat} (h : td b t = some k) : 2 ≤ k ∧ k ≤ 6 := by
  unfold td at h
  repeat' split at h
  all_goals first | (injection h with h; omega) | (injection h)
theorem td_1 {b : Nat → Int} {t : TT} {k : Nat} (h : td b t = some k) : t.1 = 1 := by
  unfold td at h
  repeat' split at h
  all_goals first | (exact isWd_1 (by assumption)) | (injection h)
theorem kd_1 {b : Nat → Int} {t : TT} {k : Nat} (h : kd b t = some k) : t.1 = 1 := by
  unfold kd at h
  repeat' split at h
  all_goals first | (exact isWd_1 (by assumption)) | (injection h)
theorem kd_le {b : Nat → Int} {t : TT} {k : Nat} (h : kd b t = some k) : k ≤ 6 := by
  unfold kd at h
  repeat' split at h
  all_goals first | (injection h with h; omega) | (injection h)
/-- the row of a place that is being read -/
def RoM (μ : mzM) (n : Nat) (r : Nat → Int) : Prop := ∀ t, t < 10 → μ 1 (4 + 10 * n + t) = r t
theorem MW.wr {μ : mzM} {w : Wd} {t : Nat} {v : Int} (h : MW μ 1 w) (hn : wN w ≤ 11) (ht : t < 10) : MW (mzS μ 1 (4 + 10 * wN w + t) v) 1 w := by
  obtain ⟨h0, h1, h2, h3, h4, h5, h6, h7⟩ := h
  refine ⟨?_, ?_, ?_, ?_, fun p t' hp ht' => ?_, fun f t' hf ht' => ?_, fun i hi => ⟨?_, ?_⟩, fun i hi => ?_⟩
  · rw [S_ne (by omega)]; exact h0
  · rw [S_ne (by omega)]; exact h1
  · rw [S_ne (by omega)]; exact h2
  · rw [S_ne (by omega)]; exact h3
  · rw [S_ne (by omega)]; exact h4 p t' hp ht'
  · rw [S_ne (by omega)]; exact h5 f t' hf ht'
  · rw [S_ne (by omega)]; exact (h6 i hi).1
  · rw [S_ne (by omega)]; exact (h6 i hi).2
  · rw [S_ne (by omega)]; exact h7 i hi
theorem XtM.cg {μ μ' : mzM} {w : Wd} (x : XtM μ μ') (h : MW μ 1 w) : MW μ' 1 w := h.cg fun j => x 1 j (by omega)
theorem XtM.ro {μ μ' : mzM} {n : Nat} {r : Nat → Int} (x : XtM μ μ') (h : RoM μ n r) : RoM μ' n r := fun t ht => by rw [x 1 _ (by omega)]; exact h t ht
theorem RoM.wr {μ : mzM} {n tr : Nat} {r : Nat → Int} {v : Int} (h : RoM μ n r) : RoM (mzS μ 1 (4 + 10 * n + tr) v) n (fun t => if t = tr then v else r t) := fun t ht => by
  show _ = if t = tr then v else r t
  by_cases c : t = tr
  · rw [if_pos c, c, S_eq]
  · rw [if_neg c, S_ne (by omega)]; exact h t ht
theorem RoM.st0 {μ : mzM} {n j : Nat} {r : Nat → Int} {v : Int} (h : RoM μ n r) : RoM (mzS μ 0 j v) n r := fun t ht => by rw [S_ne (by omega)]; exact h t ht
theorem MW.st0 {μ : mzM} {w : Wd} {j : Nat} {v : Int} (h : MW μ 1 w) : MW (mzS μ 0 j v) 1 w := h.cg fun i => S_ne (by omega)
theorem TpM.st1 {μ : mzM} {b : Nat → Int} {len j : Nat} {v : Int} (h : TpM μ b len) : TpM (mzS μ 1 j v) b len := ⟨by rw [S_ne (by omega)]; exact h.1, fun i hi => by rw [S_ne (by omega)]; exact h.2 i hi⟩
theorem pl_opt {d : Nat} {q : mzM → Prop} {b : Nat → Int} {len : Nat} {w : Wd} (hl : len ≤ 120) (hn : wN w ≤ 11) {x2 : Int} (hx : x2 = ((4 + 10 * wN w : Nat) : Int)) : ∀ (f p : Nat) (r : Nat → Int) (μ : mzM), len - p < f → p ≤ len → TpM μ b len → TkM' μ (tk b len p) → μ 0 11 = 0 → MW μ 1 w → RoM μ (wN w) r →
    ((opS b len f p r).1 = true → ∀ μ', XpM μ μ' → μ' 0 11 = 0 → MW μ' 1 w → RoM μ' (wN w) (opS b len f p r).2.2 → TkM' μ' (tk b len (opS b len f p r).2.1) → mzWp (d + 4) 18 315 [mzR 0, none, none, none, mzI 0] [] μ' (mzQv q)) →
    ((opS b len f p r).1 = false → ∀ μ', XpM μ μ' → μ' 0 11 = 1 → μ' 1 0 = wN w → μ' 0 8 = (tk b len (opS b len f p r).2.1).2.1 → mzWp (d + 4) 18 315 [mzR 0, none, none, none, mzI 0] [] μ' (mzQv q)) →
    mzWp (d + 4) 18 160 [mzR 0, none, mzI x2, mzI 1, none] [] μ (mzQv q) := by
  intro f
  induction f with
  | zero => intro p r μ h; omega
  | succ f ih =>
    intro p r μ hf hp ht hk hb hw hr hok hno
    have bd := tk_bd (b := b) hp
    generalize hp1 : (tk b len p).2.2.1 = p1 at *
    have bd1 := tk_bd (b := b) (len := len) (pos := p1) (by omega)
    have one : ∀ (tr : Nat) (c a z : Int) (μ1 : mzM), td b (tk b len p) = some tr → c = (tr : Int) → a = lo tr → z = hi tr → XtM μ μ1 → TkM' μ1 (tk b len p1) →
        mzCl (d + 3) 16 [mzR 0, mzI a, mzI z] μ1 (mzQi fun v m => ((0 : Int) ≤ mzW (x2 + c) ∧ (mzW (x2 + c) : Int) < 318) ∧ (mzWp (d + 4) 18 160 [mzR 0, none, mzI x2, mzI 1, none] [] (mzS m 1 ((mzW (x2 + c)).toNat) v) (mzQv q))) := by
      intro tr c a z μ1 e hc ha hz x1 k1
      have b1 := td_le e
      have b2 := lohi tr
      have b3 := td_1 e
      have ew : mzW (x2 + c) = ((4 + 10 * wN w + tr : Nat) : Int) := by rw [wid (by omega) (by omega)]; omega
      rw [ew]
      rw [Int.toNat_natCast]
      have hb1 : μ1 0 11 = 0 := by rw [x1 0 11 (by omega)]; exact hb
      refine c_number (b := b) (len := len) (t := tk b len p1) hl (x1.tp ht) k1 bd1.2.2.1 hb1 (by omega) (by omega) (fun y1 y2 y3 μ' y4 y5 => ⟨⟨by omega, by omega⟩, ?_⟩) (fun y v => ⟨⟨by omega, by omega⟩, ?_⟩)
      · have e2 := opS_s (f := f) (r := r) e (by rw [hp1]; exact ⟨y1, by omega, by omega⟩)
        rw [hp1] at e2
        rw [e2] at hok hno
        have x4 : XpM μ (mzS μ' 1 (4 + 10 * wN w + tr) ((tk b len p1).2.2.2 : Int)) := ((x1.p.st (by omega)).tr y4.p).st1
        have p2 := bd.2.2.2.1 (by rw [b3]; decide)
        have p3 := bd1.2.2.2.1 (by rw [y1]; decide)
        refine ih _ _ _ (by omega) bd1.2.2.1 (x4.tp ht) (y5.st (by omega)) ?_ ((y4.cg ((x1.cg hw).st0)).wr hn (by omega)) ((y4.ro (x1.ro hr).st0).wr) (fun g μ2 z1 => hok g μ2 (x4.tr z1)) (fun g μ2 z1 => hno g μ2 (x4.tr z1))
        rw [S_ne (by omega), y4 0 11 (by omega), S_eq]
      · have e2 := opS_x (f := f) (r := r) e (by rw [hp1]; intro c; exact y ⟨c.1, by omega, by omega⟩)
        rw [hp1] at e2
        rw [e2] at hno
        refine g18_160 _ _ _ ⟨fun z => absurd z (by decide), fun _ => ⟨fun _ => ?_, fun z => ?_⟩⟩
        · refine hno rfl _ ((x1.p.st (by omega)).st1) ?_ ?_ ?_
          · rw [S_ne (by omega), S_eq]
          · rw [S_ne (by omega), S_ne (by omega), x1 1 0 (by omega)]; exact hw.1
          · rw [S_ne (by omega), S_ne (by omega)]; exact k1.2.1
        · rw [S_ne (by omega), S_eq] at z
          exact absurd z (by decide)
    have T : ∀ {o : Nat} {q' : Int → mzM → Prop}, o < 14 → (isWd b (tk b len p) o = true → ∀ μ', XtM μ μ' → TkM' μ' (tk b len p1) → q' 1 μ') → (isWd b (tk b len p) o = false → q' 0 μ) → mzCl (d + 3) 15 [mzR 0, mzP 300 o] μ (mzQi q') := fun ho a1 a0 => c_takes ho hl ht hk (by omega) (by omega) hb (fun u => by rw [hp1]; exact a1 u) a0
    refine g18_160 _ _ _ ⟨fun z => absurd z (by decide), fun _ => ⟨fun z => absurd hb z, fun _ => ?_⟩⟩
    refine T (by omega) (fun w0 μ1 x1 k1 => ⟨fun z => absurd z (by decide), fun _ => one 2 _ _ _ μ1 (by simp [td, w0]) rfl rfl rfl x1 k1⟩) (fun w0 => ⟨fun _ => ?_, fun z => absurd rfl z⟩)
    refine T (by omega) (fun w1 μ1 x1 k1 => ⟨fun z => absurd z (by decide), fun _ => one 3 _ _ _ μ1 (by simp [td, w0, w1]) rfl rfl rfl x1 k1⟩) (fun w1 => ⟨fun _ => ?_, fun z => absurd rfl z⟩)
    refine T (by omega) (fun w2 μ1 x1 k1 => ⟨fun z => absurd z (by decide), fun _ => one 4 _ _ _ μ1 (by simp [td, w0, w1, w2]) rfl rfl rfl x1 k1⟩) (fun w2 => ⟨fun _ => ?_, fun z => absurd rfl z⟩)
    refine T (by omega) (fun w3 μ1 x1 k1 => ⟨fun z => absurd z (by decide), fun _ => one 5 _ _ _ μ1 (by simp [td, w0, w1, w2, w3]) rfl rfl rfl x1 k1⟩) (fun w3 => ⟨fun _ => ?_, fun z => absurd rfl z⟩)
    refine T (by omega) (fun w4 μ1 x1 k1 => ⟨fun z => absurd z (by decide), fun _ => one 6 _ _ _ μ1 (by simp [td, w0, w1, w2, w3, w4]) rfl rfl rfl x1 k1⟩) (fun w4 => ⟨fun _ => ?_, fun z => absurd rfl z⟩)
    have e2 := opS_n (len := len) (f := f) (p := p) (r := r) (b := b) (by simp [td, w0, w1, w2, w3, w4])
    rw [e2] at hok
    exact g18_160 _ _ _ ⟨fun _ => hok rfl μ XpM.rf hb hw hr hk, fun z => absurd rfl z⟩
theorem pl_315 {d : Nat} {q : mzM → Prop} {μ0 : mzM} {n : Nat} (hn : n ≤ 11) (hn0 : μ0 1 0 = n) (h : ∀ μ', (∀ k j, k ≠ 1 → μ' k j = μ0 k j) → μ' 1 0 = ((n + 1 : Nat) : Int) → (∀ j, j ≠ 0 → (j < 124 ∨ 268 ≤ j) → μ' 1 j = μ0 1 j) → (∀ f t, f < 12 → t < 12 → μ' 1 (124 + 12 * f + t) = if f = n ∨ t = n then 0 else μ0 1 (124 + 12 * f + t)) → q μ') :
    ∀ (c i : Nat) (x4 : Int) (μ : mzM), i + c = 12 → x4 = i → (∀ k j, k ≠ 1 → μ k j = μ0 k j) → μ 1 0 = n → (∀ j, j ≠ 0 → (j < 124 ∨ 268 ≤ j) → μ 1 j = μ0 1 j) → (∀ f t, f < 12 → t < 12 → μ 1 (124 + 12 * f + t) = if (f = n ∧ t < i) ∨ (t = n ∧ f < i) then 0 else μ0 1 (124 + 12 * f + t)) → mzWp (d + 1) 18 315 [mzR 0, none, none, none, mzI x4] [] μ (mzQv q) := by
  intro c
  induction c with
  | zero =>
    intro i x4 μ hi hx h1 h2 h3 h4
    have : i = 12 := by omega
    subst this
    refine g18_315 _ _ ⟨fun _ => ⟨⟨by omega, by omega⟩, ⟨by omega, by omega⟩, h _ (fun k j hk => ?_) ?_ (fun j hj hj2 => ?_) (fun f t hf ht => ?_)⟩, fun z => by omega⟩
    · rw [S_ne (by omega)]; exact h1 k j hk
    · rw [S_eq, h2, wid (by omega) (by omega)]; omega
    · rw [S_ne (by omega)]; exact h3 j hj hj2
    · rw [S_ne (by omega), h4 f t hf ht]
      by_cases e : f = n ∨ t = n
      · rw [if_pos e, if_pos (by omega)]
      · rw [if_neg e, if_neg (by omega)]
  | succ c ih =>
    intro i x4 μ hi hx h1 h2 h3 h4
    subst hx
    have e1 : mzW ((mzW (124 + (mzW (12 * (μ 1 0))))) + (i : Int)) = ((124 + 12 * n + i : Nat) : Int) := by rw [h2]; unfold mzW; omega
    have e2 : ∀ v : Int, mzW ((mzW (124 + (mzW (12 * (i : Int))))) + ((mzS μ 1 (124 + 12 * n + i) v) 1 0)) = ((124 + 12 * i + n : Nat) : Int) := fun v => by rw [S_ne (by omega), h2]; unfold mzW; omega
    refine g18_315 _ _ ⟨fun z => by omega, fun _ => ?_⟩
    rw [e1, Int.toNat_natCast, e2, Int.toNat_natCast]
    refine ⟨⟨by omega, by omega⟩, ⟨by omega, by omega⟩, ⟨by omega, by omega⟩, ⟨by omega, by omega⟩, ih (i + 1) _ _ (by omega) (by rw [wid (by omega) (by omega)]; omega) (fun k j hk => ?_) ?_ (fun j hj hj2 => ?_) (fun f t hf ht => ?_)⟩
    · rw [S_ne (by omega), S_ne (by omega)]; exact h1 k j hk
    · rw [S_ne (by omega), S_ne (by omega)]; exact h2
    · rw [S_ne (by omega), S_ne (by omega)]; exact h3 j hj hj2
    · by_cases c1 : f = i ∧ t = n
      · rw [c1.1, c1.2, S_eq, if_pos (by omega)]
      · rw [S_ne (by omega)]
        by_cases c2 : f = n ∧ t = i
        · rw [c2.1, c2.2, S_eq, if_pos (by omega)]
        · rw [S_ne (by omega), h4 f t hf ht]
          by_cases e : (f = n ∧ t < i) ∨ (t = n ∧ f < i)
          · rw [if_pos e, if_pos (by omega)]
          · rw [if_neg e, if_neg (by omega)]
theorem w10 {n : Nat} (h : n ≤ 12) : mzW (4 + (mzW (10 * (n : Int)))) = ((4 + 10 * n : Nat) : Int) := by unfold mzW; omega
theorem w10c {n c : Nat} (h : n ≤ 12) (hc : c < 10) : mzW (((4 + 10 * n : Nat) : Int) + (c : Int)) = ((4 + 10 * n + c : Nat) : Int) := by unfold mzW; omega
theorem plS_n {b : Nat → Int} {len p : Nat} {w : Wd} (h : kd b (tk b len p) = none) : plS b len w p = (false, p, w) := by rw [plS, h]
theorem plS_f {b : Nat → Int} {len p k : Nat} {w : Wd} (h : kd b (tk b len p) = some k) (h2 : wN w = 12) : plS b len w p = (false, p, w) := by
  rw [plS, h]
  exact if_pos h2
theorem plS_x {b : Nat → Int} {len p k : Nat} {w : Wd} (h : kd b (tk b len p) = some k) (h2 : wN w ≠ 12) (h3 : ¬ ((tk b len (tk b len p).2.2.1).1 = 2 ∧ 1 ≤ (tk b len (tk b len p).2.2.1).2.2.2 ∧ (tk b len (tk b len p).2.2.1).2.2.2 ≤ 99)) : plS b len w p = (false, (tk b len p).2.2.1, w) := by
  rw [plS, h]
  exact (if_neg h2).trans (if_neg h3)
theorem plS_s {b : Nat → Int} {len p k : Nat} {w : Wd} (h : kd b (tk b len p) = some k) (h2 : wN w ≠ 12) (h3 : (tk b len (tk b len p).2.2.1).1 = 2 ∧ 1 ≤ (tk b len (tk b len p).2.2.1).2.2.2 ∧ (tk b len (tk b len p).2.2.1).2.2.2 ≤ 99) : plS b len w p = ((opS b len 121 (tk b len (tk b len p).2.2.1).2.2.1 (row0 k (tk b len (tk b len p).2.2.1).2.2.2)).1, (opS b len 121 (tk b len (tk b len p).2.2.1).2.2.1 (row0 k (tk b len (tk b len p).2.2.1).2.2.2)).2.1, addW w (opS b len 121 (tk b len (tk b len p).2.2.1).2.2.1 (row0 k (tk b len (tk b len p).2.2.1).2.2.2)).2.2) := by
  rw [plS, h]
  exact (if_neg h2).trans (if_pos h3)
theorem pl_82 {d : Nat} {q : mzM → Prop} {n : Nat} {m : mzM} (hn : n ≤ 12) (h : mzWp (d + 1) 18 160 [mzR 0, none, mzI ((4 + 10 * n : Nat) : Int), mzI 1, none] [] (mzS (mzS (mzS (mzS (mzS (mzS (mzS (mzS m 1 (4 + 10 * n + 2) 0) 1 (4 + 10 * n + 3) 0) 1 (4 + 10 * n + 4) 1) 1 (4 + 10 * n + 5) 1) 1 (4 + 10 * n + 6) 0) 1 (4 + 10 * n + 7) (-1)) 1 (4 + 10 * n + 8) 0) 1 (4 + 10 * n + 9) 0) (mzQv q)) : mzWp (d + 1) 18 82 [mzR 0, none, mzI ((4 + 10 * n : Nat) : Int), none, none] [] m (mzQv q) := by
  have e2 : mzW (((4 + 10 * n : Nat) : Int) + 2) = _ := w10c (c := 2) hn (by omega)
  have e3 : mzW (((4 + 10 * n : Nat) : Int) + 3) = _ := w10c (c := 3) hn (by omega)
  have e4 : mzW (((4 + 10 * n : Nat) : Int) + 4) = _ := w10c (c := 4) hn (by omega)
  have e5 : mzW (((4 + 10 * n : Nat) : Int) + 5) = _ := w10c (c := 5) hn (by omega)
  have e6 : mzW (((4 + 10 * n : Nat) : Int) + 6) = _ := w10c (c := 6) hn (by omega)
  have e7 : mzW (((4 + 10 * n : Nat) : Int) + 7) = _ := w10c (c := 7) hn (by omega)
  have e8 : mzW (((4 + 10 * n : Nat) : Int) + 8) = _ := w10c (c := 8) hn (by omega)
  have e9 : mzW (((4 + 10 * n : Nat) : Int) + 9) = _ := w10c (c := 9) hn (by omega)
  refine g18_82 _ _ ?_
  rw [e2, e3, e4, e5, e6, e7, e8, e9]
  simp only [Int.toNat_natCast]
  exact ⟨by omega, by omega, by omega, by omega, by omega, by omega, by omega, by omega, h⟩
theorem ro_row0 {m : mzM} {n : Nat} {k v : Int} (hk : m 1 (4 + 10 * n) = k) : RoM (mzS (mzS (mzS (mzS (mzS (mzS (mzS (mzS (mzS m 1 (4 + 10 * n + 1) v) 1 (4 + 10 * n + 2) 0) 1 (4 + 10 * n + 3) 0) 1 (4 + 10 * n + 4) 1) 1 (4 + 10 * n + 5) 1) 1 (4 + 10 * n + 6) 0) 1 (4 + 10 * n + 7) (-1)) 1 (4 + 10 * n + 8) 0) 1 (4 + 10 * n + 9) 0) n (row0 k v) := by
  intro t ht
  have c : t = 0 ∨ t = 1 ∨ t = 2 ∨ t = 3 ∨ t = 4 ∨ t = 5 ∨ t = 6 ∨ t = 7 ∨ t = 8 ∨ t = 9 := by omega
  rcases c with rfl | rfl | rfl | rfl | rfl | rfl | rfl | rfl | rfl | rfl <;> simp [mzS, row0, hk]
