/-! THE CLASS: begin, survey, STAND, the plan -/
theorem k_fillw {d : Nat} {q : mzM → Prop} {μ : mzM} (h : ∀ μ', (∀ k j, k ≠ 22 → μ' k j = μ k j) → (∀ j, j < 12 → μ' 22 j = 0) → q μ') : mzCl d 191 [mzR 22, mzI 0] μ (mzQv q) := by
  have L : ∀ (c i : Nat) (m : mzM), i + c = 12 → (∀ k j, k ≠ 22 → m k j = μ k j) → (∀ j, j < i → m 22 j = 0) → mzWp d 191 5 [mzR 22, mzI 0, mzI i, mzI 12] [] m (mzQv q) := by
    intro c
    induction c with
    | zero =>
      intro i m hi e1 e2
      have : i = 12 := by omega
      subst this
      exact g191w_5 _ _ _ _ ⟨fun _ => h m e1 e2, fun z => by omega⟩
    | succ c ih =>
      intro i m hi e1 e2
      refine g191w_5 _ _ _ _ ⟨fun z => by omega, fun _ => ⟨by omega, ?_⟩⟩
      rw [w1 (by omega), Int.toNat_natCast]
      refine ih (i + 1) _ (by omega) (fun k j hk => by rw [S_ne (by omega)]; exact e1 k j hk) (fun j hj => ?_)
      by_cases c1 : j = i
      · rw [c1, S_eq]
      · rw [S_ne (by omega)]; exact e2 j (by omega)
  exact g191w_e _ _ (L 12 0 μ (by omega) (fun _ _ _ => rfl) (fun j hj => absurd hj (by omega)))
theorem k_begin {d n h : Nat} {q : mzM → Prop} {μ : mzM} (hn : n ≤ 12) (hq : ∀ μ', NF μ μ' → YC μ' n h st0 → q μ') : mzCl (d + 1) 108 [mzR 16, mzI h] μ (mzQv q) := by
  refine g108_e _ _ (k_fillw fun m e1 e2 => hq m (fun k j h1 h2 => ?_) ⟨?_, ?_, ?_, fun p hp => e2 p (by omega)⟩)
  · rw [e1 k j h2, S_ne (by omega), S_ne (by omega), S_ne (by omega)]
  · rw [e1 _ _ (by omega), S_ne (by omega), S_ne (by omega), S_eq]; rfl
  · rw [e1 _ _ (by omega), S_ne (by omega), S_eq]; rfl
  · rw [e1 _ _ (by omega), S_eq]
/-- heights with each bar less -/
def loB (w : Wd) (less : Nat) (p : Nat) : Int := if 1 < wT w p 1 - less then wT w p 1 - less else 1
def HL (w : Wd) (less : Nat) (p : Nat) : Int := heS w p (loB w less p)
theorem loB_ok {w : Wd} (hW : WOk w) {less p : Nat} (hp : p < wN w) : 1 ≤ loB w less p ∧ loB w less p ≤ 99 := by
  have := T1_ok hW hp
  unfold loB
  split <;> omega
theorem loB_0 {w : Wd} (hW : WOk w) {p : Nat} (hp : p < wN w) : loB w 0 p = wT w p 1 := by
  have := T1_ok hW hp
  unfold loB
  split <;> omega
theorem HL_0 {w : Wd} (hW : WOk w) {p : Nat} (hp : p < wN w) : HL w 0 p = H0 w p := by
  unfold HL
  rw [loB_0 hW hp]
/-- heights alone -/
def LF (μ μ' : mzM) : Prop := ∀ k j, k ≠ 17 → μ' k j = μ k j
theorem LF.rf {μ : mzM} : LF μ μ := fun _ _ _ => rfl
theorem LF.ef {μ μ' : mzM} (f : LF μ μ') : EF μ μ' := fun k j _ h2 _ _ _ _ => f k j h2
theorem LF.gm {μ μ' : mzM} {w : Wd} (f : LF μ μ') (hN : wN w ≤ 12) (h : GM μ w) : GM μ' w := h.cg hN fun k j hk => f k j (by omega)
theorem k_takeBar {d p : Nat} {q : mzM → Prop} {b : Int} {μ : mzM} {w : Wd} (hW : WOk w) (C : CW μ 0 w) (hp : p < wN w) (hb : 1 ≤ b ∧ b ≤ 99) (h : q (mzS μ 17 p (heS w p b))) : mzCl (d + 2) 104 [mzR 16, mzI p, mzI b] μ (mzQv q) := by
  have hN := hW.1
  refine g104_e _ _ _ (k_heightOf (by omega) (C.T hp (by omega)) (C.T hp (by omega)) hb (T8_ok hW hp) ⟨by omega, ?_⟩)
  rw [Int.toNat_natCast]
  exact h
theorem k_lowerBars {d less : Nat} {q : mzM → Prop} {μ : mzM} {w : Wd} (hW : WOk w) (C : CW μ 0 w) (hl : less ≤ 98) (h : ∀ μ', LF μ μ' → HC μ' (wN w) (HL w less) → q μ') : mzCl (d + 3) 103 [mzR 16, mzI less] μ (mzQv q) := by
  have hN := hW.1
  have L : ∀ (c i : Nat) (m : mzM), i + c = wN w → LF μ m → (∀ p, p < i → m 17 p = HL w less p) → mzWp (d + 3) 103 2 [mzR 16, mzI less, mzI i] [] m (mzQv q) := by
    intro c
    induction c with
    | zero =>
      intro i m hi f e
      have : i = wN w := by omega
      subst this
      have hm0 : m 26 0 = wN w := (f 26 0 (by omega)).trans C.1
      exact g103_2 _ _ _ ⟨fun _ => h m f e, fun z => by omega⟩
    | succ c ih =>
      intro i m hi f e
      have hin : i < wN w := by omega
      have hm0 : m 26 0 = wN w := (f 26 0 (by omega)).trans C.1
      have Cm := f.ef.cw hN C
      have t1 := T1_ok hW hin
      refine g103_2 _ _ _ ⟨fun z => by omega, fun _ => ⟨by omega, ⟨by omega, by omega, by omega⟩, ?_⟩⟩
      rw [Int.toNat_natCast, Cm.T hin (by omega), wid (by omega) (by omega)]
      have eb : mzMx 1 (wT w i 1 - less) = loB w less i := rfl
      rw [eb]
      refine k_takeBar hW Cm hin (loB_ok hW hin) ?_
      rw [w1 (by omega)]
      refine ih (i + 1) _ (by omega) (fun k j hk => by rw [S_ne (by omega)]; exact f k j hk) (fun p hp => ?_)
      by_cases c1 : p = i
      · rw [c1, S_eq]; rfl
      · rw [S_ne (by omega)]; exact e p (by omega)
  exact g103_e _ _ (L (wN w) 0 μ (by omega) LF.rf (fun p hp => absurd hp (by omega)))
/-- ties alone -/
def TF (μ μ' : mzM) : Prop := ∀ k j, k ≠ 18 → k ≠ 19 → (k < 124 ∨ 147 < k) → μ' k j = μ k j
theorem TF.rf {μ : mzM} : TF μ μ := fun _ _ _ _ _ => rfl
theorem TF.st {μ μ' : mzM} {k j : Nat} {v : Int} (h : TF μ μ') (hs : k = 18 ∨ k = 19 ∨ (124 ≤ k ∧ k ≤ 147)) : TF μ (mzS μ' k j v) := fun a b h1 h2 h3 => by
  rw [S_ne (by omega)]
  exact h a b h1 h2 h3
theorem TF.ef {μ μ' : mzM} (f : TF μ μ') : EF μ μ' := fun k j _ _ h3 h4 _ h6 => f k j h3 h4 h6
theorem k_survey {d : Nat} {q : mzM → Prop} {μ : mzM} {w : Wd} (hW : WOk w) (C : CW μ 0 w) (h : ∀ μ', EF μ μ' → GM μ' w → HC μ' (wN w) (H0 w) → q μ') : mzCl (d + 4) 102 [mzR 16] μ (mzQv q) := by
  have hN := hW.1
  refine g102_e _ (k_lowerBars (less := 0) hW C (by omega) (fun μ1 f1 hc => ?_))
  have C1 := f1.ef.cw hN C
  have hc0 : HC μ1 (wN w) (H0 w) := fun p hp => by rw [hc p hp, HL_0 hW hp]
  -- the ties to one place
  have L2 : ∀ (t : Nat) (Q : mzM → Prop) (ht : t < wN w) (m0 : mzM), TF μ1 m0 → (∀ m, TF m0 m → (∀ s, s < t → ((∀ j, m (124 + s) j = m0 (124 + s) j ∧ m (136 + s) j = m0 (136 + s) j) ∧ m 18 s = m0 18 s ∧ m 19 s = m0 19 s)) → m 19 t = (cg (wP w) t (wN w) : Nat) → m 18 t = (gvS (wP w) t (wN w) : Nat) → GT m w t (wN w) → mzWp (d + 4) 102 7 [mzR 16, mzI (mzW ((t : Int) + 1)), none, none, none, none] [] m (mzQv q)) →
      ∀ (c f : Nat) (m : mzM), f + c = wN w → TF m0 m → (∀ s, s < t → ∀ j, m (124 + s) j = m0 (124 + s) j ∧ m (136 + s) j = m0 (136 + s) j) → (∀ j, m 18 j = m0 18 j ∧ m 19 j = m0 19 j) → GT m w t f → mzWp (d + 4) 102 25 [mzR 16, mzI t, mzI (cg (wP w) t f : Nat), mzI (gvS (wP w) t f : Nat), mzI f, none] [] m (mzQv q) := by
    intro t Q ht m0 fm0 hgo c
    induction c with
    | zero =>
      intro f m hf fm es e18 g
      have : f = wN w := by omega
      subst this
      have hm0 : m 26 0 = wN w := (fm 26 0 (by omega) (by omega) (by omega)).trans ((fm0 26 0 (by omega) (by omega) (by omega)).trans C1.1)
      refine g102_25 _ _ _ _ _ ⟨fun _ => ⟨by omega, by omega, ?_⟩, fun z => by omega⟩
      rw [Int.toNat_natCast]
      refine hgo _ ((fm.st (by omega)).st (by omega)) (fun s hs => ⟨fun j => ?_, ?_, ?_⟩) (by rw [S_ne (by omega), S_eq]) S_eq (fun j hj hp => ?_)
      · rw [S_ne (by omega), S_ne (by omega), S_ne (by omega), S_ne (by omega)]; exact es s hs j
      · rw [S_ne (by omega), S_ne (by omega)]; exact (e18 s).1
      · rw [S_ne (by omega), S_ne (by omega)]; exact (e18 s).2
      · rw [S_ne (by omega), S_ne (by omega), S_ne (by omega), S_ne (by omega)]; exact g j hj hp
    | succ c ih =>
      intro f m hf fm es e18 g
      have hfn : f < wN w := by omega
      have hm0 : m 26 0 = wN w := (fm 26 0 (by omega) (by omega) (by omega)).trans ((fm0 26 0 (by omega) (by omega) (by omega)).trans C1.1)
      have eP : m (88 + f) t = wP w f t := by rw [fm _ _ (by omega) (by omega) (by omega), fm0 _ _ (by omega) (by omega) (by omega)]; exact C1.P (by omega) (by omega)
      have ew : mzW ((f : Int) + 1) = ((f + 1 : Nat) : Int) := w1 (by omega)
      have cl := cg_le (wP w) t f
      have gl : gvS (wP w) t f < 4096 := Nat.lt_of_lt_of_le (mk_lt _ _) (pow12 (by omega))
      refine g102_25 _ _ _ _ _ ⟨fun z => by omega, fun _ => ⟨by omega, ?_⟩⟩
      rw [Int.toNat_natCast, Int.toNat_natCast, Int.toNat_natCast, eP, ew]
      refine ⟨⟨by omega, by omega, by omega⟩, fun z => ?_, fun z => ⟨by omega, ⟨by omega, by omega, by omega⟩, by omega, ⟨by omega, by omega, by omega⟩, ?_⟩⟩
      · have e1 : cg (wP w) t (f + 1) = cg (wP w) t f := by
          show cg (wP w) t f + (if 0 < wP w f t then 1 else 0) = _
          rw [if_neg (by omega), Nat.add_zero]
        have e2 : gvS (wP w) t (f + 1) = gvS (wP w) t f := by rw [gvS_s, if_neg (by omega), Nat.or_zero]
        have := ih (f + 1) m (by omega) fm es e18 (fun j hj hp => by
          by_cases cj : j = f
          · rw [cj] at hp; omega
          · exact g j (by omega) hp)
        rw [e1, e2] at this
        exact this
      · have e1 : cg (wP w) t (f + 1) = cg (wP w) t f + 1 := by
          show cg (wP w) t f + (if 0 < wP w f t then 1 else 0) = _
          rw [if_pos z]
        have e2 : gvS (wP w) t (f + 1) = gvS (wP w) t f ||| 2 ^ f := by rw [gvS_s, if_pos z]
        have hp2 : 2 ^ f < 4096 := by have := Nat.pow_lt_pow_right (a := 2) (by omega) (show f < 12 by omega); omega
        have := ih (f + 1) (mzS (mzS m (124 + t) (cg (wP w) t f) f) (136 + t) (cg (wP w) t f) (wP w f t)) (by omega) ((fm.st (by omega)).st (by omega)) (fun s hs j => by rw [S_ne (by omega), S_ne (by omega), S_ne (by omega), S_ne (by omega)]; exact es s hs j) (fun j => by rw [S_ne (by omega), S_ne (by omega), S_ne (by omega), S_ne (by omega)]; exact e18 j) (fun j hj hp => by
          by_cases cj : j = f
          · rw [cj, S_ne (by omega), S_eq, S_eq]; exact ⟨rfl, rfl⟩
          · have lt := cg_lt (wP w) t (show j < f by omega) hp
            rw [S_ne (by omega), S_ne (by omega), S_ne (by omega), S_ne (by omega)]
            exact g j (by omega) hp)
        rw [e1, e2] at this
        rw [w1 (by omega), nPow (by omega), nOr (by omega) (by omega)]
        exact this
  have L : ∀ (c t : Nat) (m : mzM), t + c = wN w → TF μ1 m → (∀ s, s < t → m 19 s = (cg (wP w) s (wN w) : Nat) ∧ m 18 s = (gvS (wP w) s (wN w) : Nat) ∧ GT m w s (wN w)) → mzWp (d + 4) 102 7 [mzR 16, mzI t, none, none, none, none] [] m (mzQv q) := by
    intro c
    induction c with
    | zero =>
      intro t m ht fm g
      have : t = wN w := by omega
      subst this
      have hm0 : m 26 0 = wN w := (fm 26 0 (by omega) (by omega) (by omega)).trans C1.1
      refine g102_7 _ _ ⟨fun _ => h m (f1.ef.tr fm.ef) g (fun p hp => ?_), fun z => by omega⟩
      rw [fm 17 p (by omega) (by omega) (by omega)]; exact hc0 p hp
    | succ c ih =>
      intro t m ht fm g
      have hm0 : m 26 0 = wN w := (fm 26 0 (by omega) (by omega) (by omega)).trans C1.1
      refine g102_7 _ _ ⟨fun z => by omega, fun _ => ?_⟩
      refine L2 t (fun _ => True) (by omega) m fm (fun m2 fm2 old n19 n18 ng => ?_) (wN w) 0 m (by omega) TF.rf (fun _ _ _ => ⟨rfl, rfl⟩) (fun _ => ⟨rfl, rfl⟩) (fun j hj => absurd hj (by omega))
      rw [w1 (by omega)]
      refine ih (t + 1) m2 (by omega) (fun k j a1 a2 a3 => (fm2 k j a1 a2 a3).trans (fm k j a1 a2 a3)) (fun s hs => ?_)
      by_cases cs : s = t
      · rw [cs]; exact ⟨n19, n18, ng⟩
      · obtain ⟨o1, o2, o3⟩ := old s (by omega)
        obtain ⟨g1, g2, g3⟩ := g s (by omega)
        exact ⟨by rw [o3]; exact g1, by rw [o2]; exact g2, fun j hj hp => ⟨by rw [(o1 _).1]; exact (g3 j hj hp).1, by rw [(o1 _).2]; exact (g3 j hj hp).2⟩⟩
  exact L (wN w) 0 μ1 (by omega) TF.rf (fun s hs => absurd hs (by omega))
/-- a year of a chain -/
theorem k_yr {d k : Nat} {q : Int → mzM → Prop} {w : Wd} {H : Nat → Int} {h : Nat} {pus : Nat → Nat} {μ : mzM} (hW : WOk w) (C : CW μ 0 w) (G : GM μ w) (hH : HC μ (wN w) H) (hh : h < 4096) (hpu : pus k < 2 ^ wN w) (Y : YC μ (wN w) h (ysS w H h pus k st0))
    (hq : ∀ r μ', ZF μ μ' → YC μ' (wN w) h (ysS w H h pus (k + 1) st0) → (r = 0 → pus k = 0 ∧ ysS w H h pus (k + 1) st0 = ysS w H h pus k st0) → q r μ') : mzCl (d + 2) 109 [mzR 16, mzI (pus k : Nat)] μ (mzQi q) :=
  k_year hW C G hH hh hpu (ysS_ok hW (st0_ok _) k) Y hq
theorem k_standOf {d : Nat} {q : Int → mzM → Prop} {w : Wd} {H : Nat → Int} {h s : Nat} {μ : mzM} (hW : WOk w) (C : CW μ 0 w) (G : GM μ w) (hH : HC μ (wN w) H) (hh : h < 4096) (hs : s < 2 ^ wN w) (hq : ∀ μ', NF μ μ' → q (stS w H h s : Nat) μ') : mzCl (d + 3) 107 [mzR 16, mzI s, mzI h] μ (mzQi q) := by
  have hN := hW.1
  have fin : ∀ (i : Nat) (m : mzM), NF μ m → YC m (wN w) h (ysS w H h (s1P s) i st0) → ysS w H h (s1P s) 24 st0 = ysS w H h (s1P s) i st0 → q (m 16 7) m := by
    intro i m f Y e
    have := hq m f
    rw [Y.1, ← e]
    exact this
  have L : ∀ (c i : Nat) (x3 : Int) (m : mzM), i + c = 24 → 1 ≤ i → NF μ m → YC m (wN w) h (ysS w H h (s1P s) i st0) → (x3 = 0 → ysS w H h (s1P s) 24 st0 = ysS w H h (s1P s) i st0) → mzWp (d + 3) 107 14 [mzR 16, none, none, mzI x3, mzI i] [] m (mzQi q) := by
    intro c
    induction c with
    | zero =>
      intro i x3 m hi h1 f Y hx
      have : i = 24 := by omega
      subst this
      exact g107_14 _ _ _ ⟨fun _ => fin 24 m f Y rfl, fun z => by omega⟩
    | succ c ih =>
      intro i x3 m hi h1 f Y hx
      have e0 : s1P s i = 0 := if_neg (by omega)
      refine g107_14 _ _ _ ⟨fun z => by omega, fun _ => ⟨fun z => fin i m f Y (hx z), fun _ => ?_⟩⟩
      have hy := k_yr (d := d) (k := i) (pus := s1P s) (q := fun r2 m1 => mzWp (d + 3) 107 14 [mzR 16, none, none, mzI r2, mzI (mzW ((i : Int) + 1))] [] m1 (mzQi q)) hW (f.ef.cw hN C) (f.gm hN G) (f.hc hH) hh (s1P_lt hs) Y (fun r m2 f2 Y2 e => by
        rw [w1 (by omega)]
        refine ih (i + 1) r m2 (by omega) (by omega) (f.tr f2.nf) Y2 (fun r0 => ?_)
        have e3 := (e r0).2
        have := ys_fix (pus := s1P s) (fun k hk => if_neg (by omega)) e3 (24 - i)
        rw [show i + (24 - i) = 24 by omega] at this
        rw [this, e3])
      rw [e0] at hy
      exact hy
  refine g107_e _ _ _ (k_begin (n := wN w) hN (fun m f Y => ?_))
  refine k_yr (k := 0) (pus := s1P s) hW (f.ef.cw hN C) (f.gm hN G) (f.hc hH) hh (s1P_lt hs) Y (fun r m2 f2 Y2 e => ?_)
  refine L 23 1 r m2 (by omega) (by omega) (f.tr f2.nf) Y2 (fun r0 => ?_)
  obtain ⟨e1, e2⟩ := e r0
  have e1 : s = 0 := e1
  have := ys_fix (pus := s1P s) (i := 0) (fun k _ => by unfold s1P; split; exact e1; rfl) e2 24
  rw [Nat.zero_add] at this
  rw [this, e2]
theorem k_passPlan {d n : Nat} {q : mzM → Prop} {w : Wd} {μ : mzM} (hn : n ≤ 99) (hW : WOk w) (C : CW μ 0 w) (hq : ∀ μ', EF μ μ' → GM μ' w → HC μ' (wN w) (H0 w) → YC μ' (wN w) (hw w) (pnS w n) → q μ') : mzCl (d + 5) 178 [mzR 14, mzI n] μ (mzQv q) := by
  have hN := hW.1
  refine g178_e _ _ (k_survey hW C (fun μ1 f1 G1 H1 => ?_))
  have C1 := f1.cw hN C
  have e3 : μ1 26 3 = (hw w : Int) := C1.2.2.2.1
  rw [e3]
  have L : ∀ (c i : Nat) (m : mzM), i + c = n → NF μ1 m → YC m (wN w) (hw w) (pnS w i) → mzWp (d + 5) 178 23 [mzR 14, mzI n, mzI i] [] m (mzQv q) := by
    intro c
    induction c with
    | zero =>
      intro i m hi f Y
      have : i = n := by omega
      subst this
      exact g178_23 _ _ _ ⟨fun _ => hq m (f1.tr f.ef) (f.gm hN G1) (f.hc H1) Y, fun z => by omega⟩
    | succ c ih =>
      intro i m hi f Y
      have Cm := f.ef.cw hN C1
      refine g178_23 _ _ _ ⟨fun z => by omega, fun _ => k_pushedIn hW Cm (k_yr (k := i) (pus := pnP w) hW Cm (f.gm hN G1) (f.hc H1) (hw_lt hW) (pnP_lt hW i) Y (fun r m2 f2 Y2 _ => ?_))⟩
      rw [w1 (by omega)]
      exact ih (i + 1) m2 (by omega) (f.tr f2.nf) Y2
  exact k_begin (n := wN w) hN (fun m f Y => L n 0 m (by omega) f Y)
