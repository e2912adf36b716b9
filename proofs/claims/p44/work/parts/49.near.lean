/-! PAIRS: near, edge -/
/-- a world with other bars -/
def bw (w : Wd) (B : Nat → Int) : Wd := (wN w, (fun p t => if t = 1 then B p else wT w p t), w.2.2)
theorem bw_id (w : Wd) : bw w (fun p => wT w p 1) = w := by
  refine Prod.ext rfl (Prod.ext (funext fun p => funext fun t => ?_) rfl)
  show (if t = 1 then wT w p 1 else wT w p t) = wT w p t
  split
  · rename_i c; rw [c]
  · rfl
theorem bw_set (w : Wd) (B : Nat → Int) (i : Nat) (v : Int) : setT (bw w B) i 1 v = bw w (fun p => if p = i then v else B p) := by
  refine Prod.ext rfl (Prod.ext (funext fun p => funext fun t => ?_) rfl)
  show (if p = i ∧ t = 1 then v else (if t = 1 then B p else wT w p t)) = if t = 1 then (if p = i then v else B p) else wT w p t
  by_cases c : p = i <;> by_cases c2 : t = 1 <;> simp [c, c2]
theorem bw_ok {w : Wd} {B : Nat → Int} (hW : WOk w) (hB : ∀ p, p < wN w → 1 ≤ B p ∧ B p ≤ 99) : WOk (bw w B) := by
  obtain ⟨h0, h1, h2, h3, h4, h5, h6, h7, h8, h9⟩ := hW
  refine ⟨h0, h1, h2, h3, fun a ha c hc => ?_, h5, h6, h7, h8, h9⟩
  show tlo c ≤ (if c = 1 then B a else wT w a c) ∧ (if c = 1 then B a else wT w a c) ≤ thi (wN w) c
  by_cases e : c = 1
  · rw [if_pos e, e]; exact hB a ha
  · rw [if_neg e]; exact h4 a ha c hc
theorem spS_bw (w : Wd) (B : Nat → Int) (came : Nat) : ∀ k, spS (bw w B) came k = spS w came k := by
  intro k
  induction k with
  | zero => rfl
  | succ k ih => unfold spS; rw [ih]; rfl
theorem yrS_bw (w : Wd) (B H : Nat → Int) (h pu : Nat) (st : St) : yrS (bw w B) H h pu st = yrS w H h pu st := by
  unfold yrS
  rw [spS_bw]
  rfl
theorem ysS_bw (w : Wd) (B H : Nat → Int) (h : Nat) (pus : Nat → Nat) (st : St) : ∀ k, ysS (bw w B) H h pus k st = ysS w H h pus k st := by
  intro k
  induction k with
  | zero => rfl
  | succ k ih =>
    unfold ysS
    rw [ih]
    exact yrS_bw w B H h _ _
theorem stS_bw (w : Wd) (B H : Nat → Int) (h s : Nat) : stS (bw w B) H h s = stS w H h s := by
  unfold stS
  rw [ysS_bw]
theorem hw_bw (w : Wd) (B : Nat → Int) : hw (bw w B) = hw w := by
  unfold hw
  rw [hB_mk, hB_mk]
  rfl
theorem st_bw (w : Wd) (B : Nat → Int) (s : Nat) : stS (bw w B) (H0 (bw w B)) (hw (bw w B)) s = stS w (fun p => heS w p (B p)) (hw w) s := by
  rw [stS_bw, hw_bw]
  rfl
/-- heights count for the places alone -/
theorem mw_back {μ : mzM} {w : Wd} {B : Nat → Int} (h : MW μ 1 (bw w B)) (hB : ∀ p, p < wN w → B p = wT w p 1) : MW μ 1 w := by
  obtain ⟨h1, h2, h3, h4, h5, h6, h7, h8⟩ := h
  refine ⟨h1, h2, h3, h4, fun p t hp ht => ?_, h6, h7, h8⟩
  rw [h5 p t hp ht]
  show (if t = 1 then B p else wT w p t) = _
  split
  · rename_i c; rw [hB p hp, c]
  · rfl
theorem MI.mk' {μ μ' : mzM} {w : Wd} (I : MI μ w) (h : MW μ' 1 w) (e0 : μ' 0 4 = μ 0 4) (e8 : ∀ j, μ' 8 j = μ 8 j) : MI μ' w := ⟨h, I.2.r rfl rfl rfl e0 e8⟩
/-- bars and years -/
def NR (μ μ' : mzM) : Prop := ∀ k j, k ≠ 1 → k ≠ 6 → k ≠ 7 → k ≠ 10 → (k ≠ 0 ∨ (j ≠ 13 ∧ j ≠ 14 ∧ j ≠ 15)) → μ' k j = μ k j
theorem NR.rf {μ : mzM} : NR μ μ := fun _ _ _ _ _ _ _ => rfl
theorem NR.tr {μ μ' μ'' : mzM} (h : NR μ μ') (h2 : NR μ' μ'') : NR μ μ'' := fun a b h1 h3 h4 h5 h6 => (h2 a b h1 h3 h4 h5 h6).trans (h a b h1 h3 h4 h5 h6)
theorem NR.st {μ μ' : mzM} {k j : Nat} {v : Int} (h : NR μ μ') (hs : k = 1 ∨ k = 10) : NR μ (mzS μ' k j v) := fun a b h1 h2 h3 h4 h5 => by
  rw [S_ne (by omega)]
  exact h a b h1 h2 h3 h4 h5
theorem BF.nr {μ μ' : mzM} (f : BF μ μ') : NR μ μ' := fun k j _ h2 h3 _ h5 => f k j h2 h3 h5
theorem NR.fm {μ μ' : mzM} (f : NR μ μ') : FM μ μ' := fun k j h => f k j (fun c => h (by unfold scM; omega)) (fun c => h (by unfold scM; omega)) (fun c => h (by unfold scM; omega)) (fun c => h (by unfold scM; omega)) (by unfold scM at h; omega)
theorem NR.mi {μ μ' : mzM} {w : Wd} (f : NR μ μ') (I : MI μ w) (h : MW μ' 1 w) : MI μ' w := I.mk' h (f 0 4 (by omega) (by omega) (by omega) (by omega) (by omega)) (fun j => f 8 j (by omega) (by omega) (by omega) (by omega) (by omega))
theorem c_brings {d s : Nat} {q : Int → mzM → Prop} {μ : mzM} {w : Wd} (hW : WOk w) (I : MW μ 1 w) (hs : s < 2 ^ wN w) (h1 : saS w s = 2 ^ wN w - 1 → ∀ μ', BF μ μ' → q 1 μ') (h0 : saS w s ≠ 2 ^ wN w - 1 → ∀ μ', BF μ μ' → q 0 μ') : mzCl (d + 5) 64 [mzR 0, mzI s] μ (mzQi q) :=
  g64_e _ _ (c_heldNow hW I (c_standOf hW I (hw_lt hW) hs (fun m f => c_every (f.mw I).1 hW.1 ⟨fun z => ⟨or00, h0 (fun c => z (congrArg (fun a : Nat => (a : Int)) c)) m f⟩, fun z => ⟨or10, h1 (Int.ofNat.inj z) m f⟩⟩)))
theorem k_standsAll {d s : Nat} {q : Int → mzM → Prop} {H : Nat → Int} {μ : mzM} {w : Wd} (hW : WOk w) (C : CW μ 0 w) (G : GM μ w) (HH : HC μ (wN w) H) (hs : s < 2 ^ wN w) (h1 : stS w H (hw w) s = 2 ^ wN w - 1 → ∀ μ', NF μ μ' → q 1 μ') (h0 : stS w H (hw w) s ≠ 2 ^ wN w - 1 → ∀ μ', NF μ μ' → q 0 μ') : mzCl (d + 4) 106 [mzR 16, mzI s] μ (mzQi q) := by
  refine g106_e _ _ ?_
  rw [k_held C]
  exact k_standOf hW C G HH (hw_lt hW) hs (fun m f => k_all (f.ef.cw hW.1 C).1 hW.1 ⟨fun z => ⟨or00, h0 (fun c => z (congrArg (fun a : Nat => (a : Int)) c)) m f⟩, fun z => ⟨or10, h1 (Int.ofNat.inj z) m f⟩⟩)
theorem ix1 {p : Nat} (hp : p < 12) : mzW ((mzW (4 + (mzW (10 * (p : Int))))) + 1) = ((4 + 10 * p + 1 : Nat) : Int) := by unfold mzW; omega
def mixB (w : Wd) (less i : Nat) (B : Nat → Int) : Nat → Int := fun p => if p < i then loB w less p else B p
theorem mixB_s (w : Wd) (less i : Nat) (B : Nat → Int) : (fun p => if p = i then loB w less i else mixB w less i B p) = mixB w less (i + 1) B := funext fun p => by
  unfold mixB
  by_cases c : p = i
  · rw [if_pos c, if_pos (by omega), c]
  · rw [if_neg c]
    by_cases c2 : p < i
    · rw [if_pos c2, if_pos (by omega)]
    · rw [if_neg c2, if_neg (by omega)]
theorem c_giveBars {d less : Nat} {q : mzM → Prop} {μ : mzM} {w : Wd} {B : Nat → Int} (hW : WOk w) (hl : less ≤ 98) (I : MW μ 1 (bw w B)) (hb : ∀ p, p < wN w → μ 10 p = wT w p 1) (h : ∀ μ', (∀ k j, k ≠ 1 → μ' k j = μ k j) → MW μ' 1 (bw w (loB w less)) → q μ') : mzCl d 66 [mzR 0, mzI less] μ (mzQv q) := by
  have hN := hW.1
  have L : ∀ (c i : Nat) (m : mzM), i + c = wN w → (∀ k j, k ≠ 1 → m k j = μ k j) → MW m 1 (bw w (mixB w less i B)) → mzWp d 66 2 [mzR 0, mzI less, mzI i] [] m (mzQv q) := by
    intro c
    induction c with
    | zero =>
      intro i m hi f Im
      have : i = wN w := by omega
      subst this
      have hm : m 1 0 = wN w := Im.1
      refine g66_2 _ _ _ ⟨by omega, fun _ => h m f ?_, fun z => by omega⟩
      obtain ⟨h1, h2, h3, h4, h5, h6, h7, h8⟩ := Im
      refine ⟨h1, h2, h3, h4, fun p t hp ht => ?_, h6, h7, h8⟩
      rw [h5 p t hp ht]
      have hp : p < wN w := hp
      show (if t = 1 then mixB w less (wN w) B p else wT w p t) = if t = 1 then loB w less p else wT w p t
      unfold mixB
      rw [if_pos hp]
    | succ c ih =>
      intro i m hi f Im
      have hin : i < wN w := by omega
      have hm : m 1 0 = wN w := Im.1
      have t1 := T1_ok hW hin
      refine g66_2 _ _ _ ⟨by omega, fun z => by omega, fun _ => ⟨by omega, ?_⟩⟩
      rw [ix1 (by omega), Int.toNat_natCast, Int.toNat_natCast, f 10 i (by omega), hb i hin, wid (by omega) (by omega), w1 (by omega)]
      have go : ∀ v, v = loB w less i → mzWp d 66 2 [mzR 0, mzI less, mzI ((i + 1 : Nat) : Int)] [] (mzS m 1 (4 + 10 * i + 1) v) (mzQv q) := by
        intro v hv
        refine ih (i + 1) _ (by omega) (fun k j hk => by rw [S_ne (by omega)]; exact f k j hk) ?_
        have := Im.setT (p := i) (t := 1) (v := v) hN (by omega) (by omega)
        rw [bw_set, hv, mixB_s] at this
        rw [hv]
        exact this
      refine ⟨fun z => ⟨by omega, by omega, go _ ?_⟩, fun z => ⟨by omega, go _ ?_⟩⟩
      · unfold loB; split <;> omega
      · unfold loB; rw [if_neg (by omega)]
  exact g66_e _ _ (L (wN w) 0 μ (by omega) (fun _ _ _ => rfl) I)
theorem c_keepBars {d : Nat} {q : mzM → Prop} {μ : mzM} {w : Wd} (hW : WOk w) (I : MW μ 1 w) (h : ∀ μ', (∀ k j, k ≠ 10 → μ' k j = μ k j) → (∀ p, p < wN w → μ' 10 p = wT w p 1) → q μ') : mzCl (d + 1) 65 [mzR 0] μ (mzQv q) := by
  have hN := hW.1
  have L : ∀ (c i : Nat) (m : mzM), i + c = wN w → (∀ k j, k ≠ 10 → m k j = μ k j) → (∀ p, p < i → m 10 p = wT w p 1) → mzWp (d + 1) 65 2 [mzR 0, mzI i] [] m (mzQv q) := by
    intro c
    induction c with
    | zero =>
      intro i m hi f e
      have : i = wN w := by omega
      subst this
      have hm : m 1 0 = wN w := (f 1 0 (by omega)).trans I.1
      exact g65_2 _ _ ⟨by omega, fun _ => h m f e, fun z => by omega⟩
    | succ c ih =>
      intro i m hi f e
      have Im : MW m 1 w := I.cg fun j => f 1 j (by omega)
      have hm := Im.1
      refine g65_2 _ _ ⟨by omega, fun z => by omega, fun _ => c_of (t := 1) (by omega) (by omega) ⟨by omega, ?_⟩⟩
      rw [Im.T (by omega) (by omega), w1 (by omega), Int.toNat_natCast]
      refine ih (i + 1) _ (by omega) (fun k j hk => by rw [S_ne (by omega)]; exact f k j hk) (fun p hp => ?_)
      by_cases c1 : p = i
      · rw [c1, S_eq]
      · rw [S_ne (by omega)]; exact e p (by omega)
  exact g65_e _ (L (wN w) 0 μ (by omega) (fun _ _ _ => rfl) (fun p hp => absurd hp (by omega)))
def neF (w : Wd) (s : Nat) : Nat → Nat → Int
  | 0, _ => -1000004
  | c + 1, i => if stS w (HL w i) (hw w) s = 2 ^ wN w - 1 then (i : Int) else neF w s c (i + 1)
def neS (w : Wd) (s : Int) : Int × Wd := (if 0 ≤ s ∧ s < (2 ^ wN w : Nat) then neF w s.toNat 99 0 else -1000001, w)
theorem c_near {d : Nat} {q : Int → mzM → Prop} {s : Int} {μ : mzM} {w : Wd} (hW : WOk w) (I : MI μ w) (h : ∀ μ', FM μ μ' → MI μ' (neS w s).2 → q (neS w s).1 μ') : mzCl (d + 6) 67 [mzR 0, mzI s] μ (mzQi q) := by
  have hN := hW.1
  unfold neS at h
  refine g67_e _ _ (c_isSet I.1.1 hW.1 (fun n e1 e2 => ⟨fun _ => ?_, fun z => absurd z (by decide)⟩) (fun a => ⟨fun z => absurd rfl z, fun _ => c_fd (by omega) I ?_⟩))
  · subst e1
    rw [if_pos (by omega), Int.toNat_natCast] at h
    refine c_keepBars hW I.1 (fun m0 f0 b0 => ?_)
    have N0 : NR μ m0 := fun k j _ _ _ h4 _ => f0 k j h4
    have I0 : MW m0 1 (bw w (fun p => wT w p 1)) := by rw [bw_id]; exact I.1.cg fun j => f0 1 j (by omega)
    -- the bars are given back
    have bk : ∀ (m : mzM) (B : Nat → Int) (Q : mzM → Prop), NR m0 m → m 10 = m0 10 → MW m 1 (bw w B) → (∀ μ', FM μ μ' → MI μ' w → Q μ') → mzCl (d + 5) 66 [mzR 0, mzI 0] m (mzQv Q) := by
      intro m B Q f e10 Im hQ
      refine c_giveBars (less := 0) hW (by omega) Im (fun p hp => by rw [e10]; exact b0 p hp) (fun m2 f2 I2 => ?_)
      have N2 : NR μ m2 := (N0.tr f).tr (fun k j h1 _ _ _ _ => f2 k j h1)
      exact hQ m2 N2.fm (N2.mi I (mw_back I2 (fun p hp => loB_0 hW hp)))
    have L : ∀ (c i : Nat) (m : mzM) (B : Nat → Int), i + c = 99 → NR m0 m → m 10 = m0 10 → MW m 1 (bw w B) → (∀ μ', FM μ μ' → MI μ' w → q (neF w n c i) μ') → mzWp (d + 6) 67 23 [mzR 0, mzI n, mzI (-1), mzI i] [] m (mzQi q) := by
      intro c
      induction c with
      | zero =>
        intro i m B hi f e10 Im hq
        refine g67_23 _ _ _ _ ⟨fun _ => bk m B _ f e10 Im (fun m2 f2 i2 => ⟨fun z => absurd z (by decide), fun _ => c_fd (by omega) i2 (fun m3 f3 i3 => hq m3 (f2.tr f3) i3)⟩), fun z => by omega⟩
      | succ c ih =>
        intro i m B hi f e10 Im hq
        refine g67_23 _ _ _ _ ⟨fun z => by omega, fun _ => ⟨fun z => absurd z (by decide), fun _ => c_giveBars hW (by omega) Im (fun p hp => by rw [e10]; exact b0 p hp) (fun m2 f2 I2 => ?_)⟩⟩
        have N2 : NR m0 m2 := f.tr (fun k j h1 _ _ _ _ => f2 k j h1)
        have W2 : WOk (bw w (loB w i)) := bw_ok hW (fun p hp => loB_ok hW hp)
        have es : saS (bw w (loB w i)) n = stS w (HL w i) (hw w) n := st_bw w (loB w i) n
        have e2' : n < 2 ^ wN (bw w (loB w i)) := e2
        rw [neF, ← es] at hq
        rw [w1 (by omega)]
        refine c_brings W2 I2 e2' (fun a m3 f3 => ⟨fun z => absurd z (by decide), fun _ => ?_⟩) (fun a m3 f3 => ⟨fun _ => ?_, fun z => absurd rfl z⟩)
        · rw [if_pos (show saS (bw w (loB w i)) n = 2 ^ wN w - 1 from a)] at hq
          have e3 : m3 10 = m0 10 := by
            rw [← e10]
            exact funext fun j => (f3 10 j (by omega) (by omega) (by omega)).trans (f2 10 j (by omega))
          have go := bk m3 (loB w i) (fun m4 => (0 ≤ (i : Int) → q i m4) ∧ ((i : Int) < 0 → mzCl (d + 5) 1 [mzR 0, mzI (-1000004)] m4 (mzQi fun r3 m2 => q r3 m2))) (N2.tr f3.nr) e3 (f3.mw I2) (fun m4 f4 i4 => ⟨fun _ => hq m4 f4 i4, fun z => by omega⟩)
          exact g67_23 _ _ _ _ ⟨fun _ => go, fun _ => ⟨fun _ => go, fun z => by omega⟩⟩
        · rw [if_neg (show ¬ saS (bw w (loB w i)) n = 2 ^ wN w - 1 from a)] at hq
          have e3 : m3 10 = m0 10 := by
            rw [← e10]
            exact funext fun j => (f3 10 j (by omega) (by omega) (by omega)).trans (f2 10 j (by omega))
          exact ih (i + 1) m3 _ (by omega) (N2.tr f3.nr) e3 (f3.mw I2) hq
    exact L 99 0 m0 _ (by omega) NR.rf rfl I0 h
  · rw [if_neg (by omega)] at h; exact h
theorem k_near {d : Nat} {q : Int → mzM → Prop} {s : Int} {μ : mzM} {w : Wd} (hW : WOk w) (C : CW μ 0 w) (h : ∀ μ', FC μ μ' → CW μ' 0 (neS w s).2 → q (neS w s).1 μ') : mzCl (d + 6) 154 [mzR 14, mzI s] μ (mzQi q) := by
  have hN := hW.1
  unfold neS at h
  refine g154_e _ _ (k_isSet C.1 hW.1 (fun n e1 e2 => ⟨fun _ => ?_, fun z => absurd z (by decide)⟩) (fun a => ⟨fun z => absurd rfl z, fun _ => k_fd (by omega) hN C ?_⟩))
  · subst e1
    rw [if_pos (by omega), Int.toNat_natCast] at h
    refine k_survey hW C (fun m1 f1 G1 _ => ?_)
    have L : ∀ (c i : Nat) (m : mzM), i + c = 99 → EF μ m → GM m w → (∀ μ', FC μ μ' → CW μ' 0 w → q (neF w n c i) μ') → mzWp (d + 6) 154 24 [mzR 14, mzI n, mzI i] [] m (mzQi q) := by
      intro c
      induction c with
      | zero =>
        intro i m hi f G hq
        exact g154_24 _ _ _ ⟨fun _ => k_fd (by omega) hN (f.cw hN C) (fun m2 f2 c2 => hq m2 (f.fc.tr f2) c2), fun z => by omega⟩
      | succ c ih =>
        intro i m hi f G hq
        have Cm := f.cw hN C
        rw [neF] at hq
        refine g154_24 _ _ _ ⟨fun z => by omega, fun _ => k_lowerBars hW Cm (by omega) (fun m2 f2 h2 => k_standsAll hW (f2.ef.cw hN Cm) (f2.gm hN G) h2 e2 (fun a m3 f3 => ⟨fun z => absurd z (by decide), fun _ => ?_⟩) (fun a m3 f3 => ⟨fun _ => ?_, fun z => absurd rfl z⟩))⟩
        · rw [if_pos a] at hq
          have f4 := f.tr (f2.ef.tr f3.ef)
          exact hq m3 f4.fc (f4.cw hN C)
        · rw [if_neg a] at hq
          rw [w1 (by omega)]
          exact ih (i + 1) m3 (by omega) (f.tr (f2.ef.tr f3.ef)) (f3.gm hN (f2.gm hN G)) hq
    exact L 99 0 m1 (by omega) f1 G1 h
  · rw [if_neg (by omega)] at h; exact h
theorem p_near {d : Nat} {μ : mzM} {w : Wd} {q : Int → Int → mzM → Prop} {s : Int} (R : RW μ w) (h : ∀ a μ' w', RW μ' w' → q a a μ') : mzCl (d + 6) 154 [mzR 14, mzI s] μ (mzQi fun a m1 => mzCl (d + 6) 67 [mzR 0, mzI s] m1 (mzQi fun c m2 => q a c m2)) :=
  pair (neS w s) R R.1 (fun q' z => k_near R.1 R.2.2.1 z) (fun m1 q' _ I z => c_near R.1 I z) h
def edB (w : Wd) (p : Nat) (b : Int) : Nat → Int := fun a => if a = p then b else wT w a 1
def edF (w : Wd) (s p : Nat) : Nat → Int
  | 0 => -1000004
  | b + 1 => if stS w (fun a => heS w a (edB w p ((b + 1 : Nat) : Int) a)) (hw w) s = 2 ^ wN w - 1 then ((b + 1 : Nat) : Int) else edF w s p b
def edS (w : Wd) (s p : Int) : Int × Wd := (if (0 ≤ s ∧ s < (2 ^ wN w : Nat)) ∧ 0 ≤ p ∧ p < wN w then edF w s.toNat p.toNat 99 else -1000001, w)
theorem edB_set (w : Wd) (p : Nat) (b v : Int) : (fun a => if a = p then v else edB w p b a) = edB w p v := funext fun a => by
  unfold edB
  by_cases c : a = p
  · rw [if_pos c, if_pos c]
  · rw [if_neg c, if_neg c, if_neg c]
theorem edB_id (w : Wd) (p : Nat) : edB w p (wT w p 1) = fun a => wT w a 1 := funext fun a => by
  unfold edB
  by_cases c : a = p
  · rw [if_pos c, c]
  · rw [if_neg c]
theorem c_edge {d : Nat} {q : Int → mzM → Prop} {s p : Int} {μ : mzM} {w : Wd} (hW : WOk w) (I : MI μ w) (h : ∀ μ', FM μ μ' → MI μ' (edS w s p).2 → q (edS w s p).1 μ') : mzCl (d + 6) 68 [mzR 0, mzI s, mzI p] μ (mzQi q) := by
  have hN := hW.1
  unfold edS at h
  refine g68_e _ _ _ (c_isSet I.1.1 hW.1 (fun n e1 e2 => ⟨fun z => absurd z (by decide), fun _ => c_isPlace I.1.1 hW.1 (fun b1 b2 => ⟨fun _ => ?_, fun z => absurd z (by decide)⟩) (fun a => ⟨fun z => absurd rfl z, fun _ => c_fd (by omega) I ?_⟩)⟩) (fun a => ⟨fun _ => c_fd (by omega) I ?_, fun z => absurd rfl z⟩))
  · subst e1
    obtain ⟨p, rfl⟩ : ∃ k : Nat, p = k := ⟨p.toNat, by omega⟩
    rw [if_pos (by omega), Int.toNat_natCast, Int.toNat_natCast] at h
    have hp : p < wN w := by omega
    rw [ix1 (by omega), Int.toNat_natCast, I.1.T hp (by omega)]
    refine ⟨by omega, ?_⟩
    have setb : ∀ (m : mzM) (b v : Int), MW m 1 (bw w (edB w p b)) → MW (mzS m 1 (4 + 10 * p + 1) v) 1 (bw w (edB w p v)) := by
      intro m b v Im
      have := Im.setT (p := p) (t := 1) (v := v) hN (by omega) (by omega)
      rw [bw_set, edB_set] at this
      exact this
    have bk : ∀ (m : mzM) (b : Int), NR μ m → MW m 1 (bw w (edB w p b)) → FM μ (mzS m 1 (4 + 10 * p + 1) (wT w p 1)) ∧ MI (mzS m 1 (4 + 10 * p + 1) (wT w p 1)) w := by
      intro m b f Im
      have := setb m b (wT w p 1) Im
      rw [edB_id, bw_id] at this
      have N2 := NR.st (k := 1) (j := 4 + 10 * p + 1) (v := wT w p 1) f (by omega)
      exact ⟨N2.fm, N2.mi I this⟩
    have L : ∀ (c : Nat) (m : mzM) (b : Int), c ≤ 99 → NR μ m → MW m 1 (bw w (edB w p b)) → (∀ μ', FM μ μ' → MI μ' w → q (edF w n p c) μ') → mzWp (d + 6) 68 47 [mzR 0, mzI n, none, mzI ((4 + 10 * p + 1 : Nat) : Int), mzI (wT w p 1), mzI (-1), mzI c] [] m (mzQi q) := by
      intro c
      induction c with
      | zero =>
        intro m b hc f Im hq
        obtain ⟨b1, b2⟩ := bk m b f Im
        refine g68_47 _ _ _ _ _ _ ⟨fun _ => ⟨by omega, fun z => absurd z (by decide), fun _ => ?_⟩, fun z => absurd z (by decide)⟩
        rw [Int.toNat_natCast]
        exact c_fd (by omega) b2 (fun m3 f3 i3 => hq m3 (b1.tr f3) i3)
      | succ c ih =>
        intro m b hc f Im hq
        refine g68_47 _ _ _ _ _ _ ⟨fun z => by omega, fun _ => ⟨fun z => absurd z (by decide), fun _ => ⟨by omega, ?_⟩⟩⟩
        rw [Int.toNat_natCast]
        have I2 := setb m b ((c + 1 : Nat) : Int) Im
        have N2 : NR μ (mzS m 1 (4 + 10 * p + 1) ((c + 1 : Nat) : Int)) := f.st (by omega)
        have W2 : WOk (bw w (edB w p ((c + 1 : Nat) : Int))) := bw_ok hW (fun a ha => by
          unfold edB
          split
          · omega
          · exact T1_ok hW ha)
        have es : saS (bw w (edB w p ((c + 1 : Nat) : Int))) n = stS w (fun a => heS w a (edB w p ((c + 1 : Nat) : Int) a)) (hw w) n := st_bw w _ n
        have e2' : n < 2 ^ wN (bw w (edB w p ((c + 1 : Nat) : Int))) := e2
        have ew : mzW (((c + 1 : Nat) : Int) + (-1)) = (c : Int) := by rw [wid (by omega) (by omega)]; omega
        rw [edF, ← es] at hq
        rw [ew]
        refine c_brings W2 I2 e2' (fun a m3 f3 => ⟨fun z => absurd z (by decide), fun _ => ?_⟩) (fun a m3 f3 => ⟨fun _ => ?_, fun z => absurd rfl z⟩)
        · rw [if_pos (show saS (bw w (edB w p ((c + 1 : Nat) : Int))) n = 2 ^ wN w - 1 from a)] at hq
          obtain ⟨b1, b2⟩ := bk m3 _ (N2.tr f3.nr) (f3.mw I2)
          refine g68_47 _ _ _ _ _ _ ⟨fun _ => ⟨by omega, fun _ => ?_, fun z => by omega⟩, fun _ => ⟨fun _ => ⟨by omega, fun _ => ?_, fun z => by omega⟩, fun z => by omega⟩⟩
          · rw [Int.toNat_natCast]; exact hq _ b1 b2
          · rw [Int.toNat_natCast]; exact hq _ b1 b2
        · rw [if_neg (show ¬ saS (bw w (edB w p ((c + 1 : Nat) : Int))) n = 2 ^ wN w - 1 from a)] at hq
          exact ih m3 _ (by omega) (N2.tr f3.nr) (f3.mw I2) hq
    exact L 99 μ (wT w p 1) (by omega) NR.rf (by rw [edB_id, bw_id]; exact I.1) h
  · rw [if_neg (by omega)] at h; exact h
  · rw [if_neg (by omega)] at h; exact h
theorem k_edge {d : Nat} {q : Int → mzM → Prop} {s p : Int} {μ : mzM} {w : Wd} (hW : WOk w) (C : CW μ 0 w) (h : ∀ μ', FC μ μ' → CW μ' 0 (edS w s p).2 → q (edS w s p).1 μ') : mzCl (d + 6) 156 [mzR 14, mzI s, mzI p] μ (mzQi q) := by
  have hN := hW.1
  unfold edS at h
  refine g156_e _ _ _ (k_isSet C.1 hW.1 (fun n e1 e2 => ⟨fun z => absurd z (by decide), fun _ => k_isPlace C.1 (fun b1 b2 => ⟨fun _ => ?_, fun z => absurd z (by decide)⟩) (fun a => ⟨fun z => absurd rfl z, fun _ => k_fd (by omega) hN C ?_⟩)⟩) (fun a => ⟨fun _ => k_fd (by omega) hN C ?_, fun z => absurd rfl z⟩))
  · subst e1
    obtain ⟨p, rfl⟩ : ∃ k : Nat, p = k := ⟨p.toNat, by omega⟩
    rw [if_pos (by omega), Int.toNat_natCast, Int.toNat_natCast] at h
    have hp : p < wN w := by omega
    refine k_survey hW C (fun m1 f1 G1 H1 => ?_)
    have L : ∀ (c : Nat) (m : mzM), c ≤ 99 → EF μ m → GM m w → (∀ a, a < wN w → a ≠ p → m 17 a = H0 w a) → (∀ μ', FC μ μ' → CW μ' 0 w → q (edF w n p c) μ') → mzWp (d + 6) 156 33 [mzR 14, mzI n, mzI p, mzI c] [] m (mzQi q) := by
      intro c
      induction c with
      | zero =>
        intro m hc f G hh hq
        exact g156_33 _ _ _ _ ⟨fun _ => k_fd (by omega) hN (f.cw hN C) (fun m2 f2 c2 => hq m2 (f.fc.tr f2) c2), fun z => absurd z (by decide)⟩
      | succ c ih =>
        intro m hc f G hh hq
        have Cm := f.cw hN C
        have ew : mzW (((c + 1 : Nat) : Int) + (-1)) = (c : Int) := by rw [wid (by omega) (by omega)]; omega
        rw [edF] at hq
        have lf : LF m (mzS m 17 p (heS w p ((c + 1 : Nat) : Int))) := fun k j hk => S_ne (by omega)
        refine g156_33 _ _ _ _ ⟨fun z => by omega, fun _ => k_takeBar hW Cm hp (by omega) ?_⟩
        rw [ew]
        refine k_standsAll (H := fun a => heS w a (edB w p ((c + 1 : Nat) : Int) a)) hW (lf.ef.cw hN Cm) (lf.gm hN G) (fun a ha => ?_) e2 (fun a m3 f3 => ⟨fun z => absurd z (by decide), fun _ => ?_⟩) (fun a m3 f3 => ⟨fun _ => ?_, fun z => absurd rfl z⟩)
        · show mzS m 17 p (heS w p ((c + 1 : Nat) : Int)) 17 a = heS w a (if a = p then ((c + 1 : Nat) : Int) else wT w a 1)
          by_cases c1 : a = p
          · rw [c1, S_eq, if_pos rfl]
          · rw [S_ne (Or.inr c1), if_neg c1]; exact hh a ha c1
        · rw [if_pos a] at hq
          have f4 := f.tr (lf.ef.tr f3.ef)
          exact hq m3 f4.fc (f4.cw hN C)
        · rw [if_neg a] at hq
          refine ih m3 (by omega) (f.tr (lf.ef.tr f3.ef)) (f3.gm hN (lf.gm hN G)) (fun a ha c1 => ?_) hq
          rw [f3 17 a (by omega) (by omega), S_ne (by omega)]; exact hh a ha c1
    exact L 99 m1 (by omega) f1 G1 (fun a ha _ => H1 a ha) h
  · rw [if_neg (by omega)] at h; exact h
  · rw [if_neg (by omega)] at h; exact h
theorem p_edge {d : Nat} {μ : mzM} {w : Wd} {q : Int → Int → mzM → Prop} {s p : Int} (R : RW μ w) (h : ∀ a μ' w', RW μ' w' → q a a μ') : mzCl (d + 6) 156 [mzR 14, mzI s, mzI p] μ (mzQi fun a m1 => mzCl (d + 6) 68 [mzR 0, mzI s, mzI p] m1 (mzQi fun c m2 => q a c m2)) :=
  pair (edS w s p) R R.1 (fun q' z => k_edge R.1 R.2.2.1 z) (fun m1 q' _ I z => c_edge R.1 I z) h
