/-! THE REFERENCE'S YEAR -/
def YM (μ : mzM) (n h : Nat) (st : St) : Prop := μ 0 13 = st.1 ∧ μ 0 14 = st.2.1 ∧ μ 0 15 = h ∧ ∀ p, p < n → μ 6 p = st.2.2 p
def HM (μ : mzM) (n : Nat) (H : Nat → Int) : Prop := ∀ p, p < n → μ 7 p = H p
def YF (μ μ' : mzM) : Prop := ∀ k j, k ≠ 6 → (k ≠ 0 ∨ (j ≠ 13 ∧ j ≠ 14)) → μ' k j = μ k j
theorem YF.rf {μ : mzM} : YF μ μ := fun _ _ _ _ => rfl
theorem YF.tr {μ μ' μ'' : mzM} (h : YF μ μ') (h2 : YF μ' μ'') : YF μ μ'' := fun a b h1 h3 => (h2 a b h1 h3).trans (h a b h1 h3)
theorem YF.st {μ μ' : mzM} {k j : Nat} {v : Int} (h : YF μ μ') (hs : k = 6 ∨ (k = 0 ∧ (j = 13 ∨ j = 14))) : YF μ (mzS μ' k j v) := fun a b h1 h2 => by
  rw [S_ne (by omega)]
  exact h a b h1 h2
theorem YF.mw {μ μ' : mzM} {w : Wd} (f : YF μ μ') (h : MW μ 1 w) : MW μ' 1 w := h.cg fun j => f 1 j (by omega) (by omega)
theorem YF.hm {μ μ' : mzM} {n : Nat} {H : Nat → Int} (f : YF μ μ') (h : HM μ n H) : HM μ' n H := fun p hp => by rw [f 7 p (by omega) (by omega)]; exact h p hp
/-- who is over when the first p have walked -/
def oP (w : Wd) (H : Nat → Int) (h pu : Nat) (st : St) (p : Nat) : Nat := mk (wN w) (fun j => if j < p then o1b w H h pu st j else (thS h pu st).testBit j)
theorem oP_lt {w : Wd} {H : Nat → Int} {h pu : Nat} {st : St} {p : Nat} : oP w H h pu st p < 2 ^ wN w := mk_lt _ _
theorem oP_n {w : Wd} {H : Nat → Int} {h pu : Nat} {st : St} : oP w H h pu st (wN w) = o1S w H h pu st := mk_cg fun p hp => by rw [if_pos hp]
theorem thS_lt {n h pu : Nat} {st : St} (h1 : st.1 < 2 ^ n) (h2 : pu < 2 ^ n) : thS h pu st < 2 ^ n := Nat.or_lt_two_pow h1 (nd_lt (nd_lt h2))
theorem oP_0 {w : Wd} {H : Nat → Int} {h pu : Nat} {st : St} (h1 : st.1 < 2 ^ wN w) (h2 : pu < 2 ^ wN w) : oP w H h pu st 0 = thS h pu st := by
  refine Nat.eq_of_testBit_eq (fun i => ?_)
  unfold oP
  rw [mk_bit, if_neg (Nat.not_lt_zero i)]
  by_cases c : i < wN w
  · rw [decide_eq_true c, Bool.true_and]
  · rw [decide_eq_false c, Bool.false_and, bit_lt (thS_lt h1 h2) (by omega)]
theorem oP_s {w : Wd} {H : Nat → Int} {h pu : Nat} {st : St} {p : Nat} (e : o1b w H h pu st p = (thS h pu st).testBit p) : oP w H h pu st (p + 1) = oP w H h pu st p := mk_cg fun j hj => by
  show (if j < p + 1 then _ else _) = if j < p then _ else _
  by_cases c : j < p
  · rw [if_pos c, if_pos (by omega)]
  · rw [if_neg c]
    by_cases c2 : j = p
    · rw [if_pos (by omega), c2]; exact e
    · rw [if_neg (by omega)]
theorem oP_f {w : Wd} {H : Nat → Int} {h pu : Nat} {st : St} {p : Nat} (e : o1b w H h pu st p = false) : oP w H h pu st (p + 1) = nd (oP w H h pu st p) (2 ^ p) := by
  refine Nat.eq_of_testBit_eq (fun i => ?_)
  unfold oP
  rw [nd_bit, mk_bit, mk_bit, Nat.testBit_two_pow]
  by_cases c2 : i = p
  · rw [if_pos (by omega), c2, e]; simp
  · rw [decide_eq_false (p := p = i) (by omega)]
    by_cases c : i < p
    · rw [if_pos c, if_pos (by omega)]; simp
    · rw [if_neg c, if_neg (by omega)]; simp
theorem oP_t {w : Wd} {H : Nat → Int} {h pu : Nat} {st : St} {p : Nat} (hp : p < wN w) (e : o1b w H h pu st p = true) : oP w H h pu st (p + 1) = oP w H h pu st p ||| 2 ^ p := by
  refine Nat.eq_of_testBit_eq (fun i => ?_)
  unfold oP
  rw [Nat.testBit_or, mk_bit, mk_bit, Nat.testBit_two_pow]
  by_cases c2 : i = p
  · rw [if_pos (by omega), c2, e, decide_eq_true hp]; simp
  · rw [decide_eq_false (p := p = i) (by omega)]
    by_cases c : i < p
    · rw [if_pos c, if_pos (by omega)]; simp
    · rw [if_neg c, if_neg (by omega)]; simp
/-- a place that is walking -/
def wk (h pu : Nat) (st : St) (j : Nat) : Prop := (thS h pu st).testBit j = false ∧ (h ||| st.2.1).testBit j = false
theorem cy_1 {d : Nat} {q : Int → mzM → Prop} {w : Wd} {H : Nat → Int} {h pu : Nat} {st : St} {μ0 : mzM} (hW : WOk w) (I : MW μ0 1 w) (hH : HM μ0 (wN w) H) (hh : h < 4096) (hpu : pu < 2 ^ wN w) (hy : YI (wN w) st)
    (hq : ∀ x4 μ', YF μ0 μ' → μ' 0 13 = o1S w H h pu st → μ' 0 14 = st.2.1 → (∀ p, p < wN w → μ' 6 p = w1S w H h pu st p) → (x4 = 0 → ∀ j, j < wN w → wk h pu st j → nwS w H h pu st j = st.2.2 j) → mzWp (d + 3) 38 232 [mzR 0, none, mzI st.1, mzI st.2.1, mzI x4, none, none, mzI 0, none] [] μ' (mzQi q)) :
    ∀ (c p : Nat) (x4 : Int) (m : mzM), p + c = wN w → YF μ0 m → m 0 13 = oP w H h pu st p → m 0 14 = st.2.1 → m 0 15 = h → (∀ j, j < wN w → m 6 j = if j < p then w1S w H h pu st j else st.2.2 j) → (x4 = 0 → ∀ j, j < p → wk h pu st j → nwS w H h pu st j = st.2.2 j) → mzWp (d + 3) 38 48 [mzR 0, mzI pu, mzI st.1, mzI st.2.1, mzI x4, none, mzI (thS h pu st), mzI p, none] [] m (mzQi q) := by
  have hN := hW.1
  have p1 := pow12 hN
  have ht := thS_lt (h := h) hy.1 hpu
  have hd := hy.2.1
  intro c
  induction c with
  | zero =>
    intro p x4 m hp f e13 e14 e15 e6 e4
    have : p = wN w := by omega
    subst this
    have hm0 : m 1 0 = wN w := (f.mw I).1
    exact g38_48 _ _ _ _ _ _ _ ⟨by omega, fun _ => hq x4 m f (by rw [e13, oP_n]) e14 (fun j hj => by rw [e6 j hj, if_pos hj]) e4, fun z => by omega⟩
  | succ c ih =>
    intro p x4 m hp f e13 e14 e15 e6 e4
    have hpn : p < wN w := by omega
    have p12 : p < 12 := by omega
    have Im := f.mw I
    have hm0 : m 1 0 = wN w := Im.1
    have e6p : m 6 p = st.2.2 p := by rw [e6 p hpn, if_neg (by omega)]
    have ew : mzW ((p : Int) + 1) = ((p + 1 : Nat) : Int) := w1 (by omega)
    have hp2 : 2 ^ p < 4096 := by have := Nat.pow_lt_pow_right (a := 2) (by omega) p12; omega
    have ol : oP w H h pu st p < 4096 := Nat.lt_of_lt_of_le oP_lt p1
    -- nothing changes
    have same : o1b w H h pu st p = (thS h pu st).testBit p → w1S w H h pu st p = st.2.2 p → ¬ wk h pu st p → mzWp (d + 3) 38 48 [mzR 0, mzI pu, mzI st.1, mzI st.2.1, mzI x4, none, mzI (thS h pu st), mzI (mzW ((p : Int) + 1)), none] [] m (mzQi q) := by
      intro a1 a2 a3
      rw [ew]
      refine ih (p + 1) x4 m (by omega) f (by rw [e13, oP_s a1]) e14 e15 (fun j hj => ?_) (fun z j hj hw => ?_)
      · rw [e6 j hj]
        by_cases cj : j = p
        · rw [cj, if_neg (by omega), if_pos (by omega), a2]
        · by_cases c2 : j < p
          · rw [if_pos c2, if_pos (by omega)]
          · rw [if_neg c2, if_neg (by omega)]
      · by_cases cj : j = p
        · rw [cj] at hw; exact absurd hw a3
        · exact e4 z j (by omega) hw
    -- one who walks
    have walk : ∀ (v x : Int), wk h pu st p → v = nwS w H h pu st p → (x = 0 → x4 = 0 ∧ v = st.2.2 p) → mzCl (d + 2) 5 [mzR 0, mzI p, mzI 3] (mzS m 6 p v) (mzQi fun r m' => (v ≤ r → mzWp (d + 3) 38 48 [mzR 0, mzI pu, mzI st.1, mzI st.2.1, mzI x, none, mzI (thS h pu st), mzI (mzW ((p : Int) + 1)), none] [] (mzS m' 0 13 (mzOr (m 0 13) 0)) (mzQi q)) ∧ (r < v → mzWp (d + 3) 38 48 [mzR 0, mzI pu, mzI st.1, mzI st.2.1, mzI x, none, mzI (thS h pu st), mzI (mzW ((p : Int) + 1)), none] [] (mzS m' 0 13 (mzOr (m 0 13) (mzShl 1 (p : Int)))) (mzQi q))) := by
      intro v x hk hv hx
      have es : o1b w H h pu st p = decide (wT w p 3 < v) := by
        unfold o1b
        rw [hk.1, if_neg (by decide), hk.2, hv]
        rfl
      have ws : w1S w H h pu st p = v := by
        unfold w1S
        rw [hk.1, if_neg (by decide), hk.2, if_neg (by decide), hv]
      have go : ∀ o : Int, o = oP w H h pu st (p + 1) → mzWp (d + 3) 38 48 [mzR 0, mzI pu, mzI st.1, mzI st.2.1, mzI x, none, mzI (thS h pu st), mzI (mzW ((p : Int) + 1)), none] [] (mzS (mzS m 6 p v) 0 13 o) (mzQi q) := by
        intro o ho
        rw [ew]
        refine ih (p + 1) x _ (by omega) ((f.st (by omega)).st (by omega)) (by rw [S_eq, ho]) (by rw [S_ne (by omega), S_ne (by omega)]; exact e14) (by rw [S_ne (by omega), S_ne (by omega)]; exact e15) (fun j hj => ?_) (fun z j hj hw => ?_)
        · rw [S_ne (by omega)]
          by_cases cj : j = p
          · rw [cj, S_eq, if_pos (by omega), ws]
          · rw [S_ne (by omega), e6 j hj]
            by_cases c2 : j < p
            · rw [if_pos c2, if_pos (by omega)]
            · rw [if_neg c2, if_neg (by omega)]
        · by_cases cj : j = p
          · rw [cj, ← hv]; exact (hx z).2
          · exact e4 (hx z).1 j (by omega) hw
      refine c_of (t := 3) p12 (by omega) ?_
      rw [S_ne (by omega), Im.T hpn (by omega)]
      refine ⟨fun z => go _ ?_, fun z => go _ ?_⟩
      · have e2 := nOr (a := oP w H h pu st p) (b := 0) (by omega) (by omega)
        rw [Nat.or_zero] at e2
        rw [oP_s (by rw [es, hk.1, decide_eq_false (by omega)]), e13]
        exact e2
      · rw [oP_t hpn (by rw [es, decide_eq_true z]), e13, nPow (by omega), nOr (by omega) (by omega)]
    refine g38_48 _ _ _ _ _ _ _ ⟨by omega, fun z => by omega, fun _ => c_has (by omega) (by omega) (fun t => ⟨fun z => absurd z (by decide), fun _ => ?_⟩) (fun t => ⟨fun _ => ?_, fun z => absurd rfl z⟩)⟩
    · refine c_has (by omega) (by omega) (fun u => ⟨fun _ => same ?_ ?_ ?_, fun z => absurd z (by decide)⟩) (fun u => ⟨fun z => absurd rfl z, fun _ => c_falls hW Im hpn (by omega) ?_⟩)
      · unfold o1b; rw [t, if_pos rfl, u]; rfl
      · unfold w1S; rw [t, if_pos rfl, u]; rfl
      · intro hk; rw [hk.1] at t; exact absurd t (by decide)
      · rw [Int.toNat_natCast]
        cases fa : faS w p (thS h pu st) with
        | true =>
          refine ⟨fun _ => ⟨by omega, ?_⟩, fun z => absurd z (by decide)⟩
          rw [e13, nPow (by omega), nNot (by omega), ew]
          refine ih (p + 1) x4 _ (by omega) ((f.st (by omega)).st (by omega)) ?_ (by rw [S_ne (by omega), S_ne (by omega)]; exact e14) (by rw [S_ne (by omega), S_ne (by omega)]; exact e15) (fun j hj => ?_) (fun z j hj hw => ?_)
          · rw [S_ne (by omega), S_eq, oP_f (by unfold o1b; rw [t, if_pos rfl, u, fa]; rfl)]
          · by_cases cj : j = p
            · rw [cj, S_eq, if_pos (by omega)]
              unfold w1S
              rw [t, if_pos rfl, u, fa]
              rfl
            · rw [S_ne (by omega), S_ne (by omega), e6 j hj]
              by_cases c2 : j < p
              · rw [if_pos c2, if_pos (by omega)]
              · rw [if_neg c2, if_neg (by omega)]
          · by_cases cj : j = p
            · rw [cj] at hw; rw [hw.1] at t; exact absurd t (by decide)
            · exact e4 z j (by omega) hw
        | false =>
          refine ⟨fun z => absurd rfl z, fun _ => same ?_ ?_ ?_⟩
          · unfold o1b; rw [t, if_pos rfl, u, fa]; rfl
          · unfold w1S; rw [t, if_pos rfl, u, fa]; rfl
          · intro hk; rw [hk.1] at t; exact absurd t (by decide)
    · rw [e15, e14, nOr (by omega) (by omega)]
      have hd12 : h ||| st.2.1 < 4096 := Nat.or_lt_two_pow (n := 12) hh (by omega)
      refine c_has (by omega) (by omega) (fun u => ⟨fun _ => same ?_ ?_ ?_, fun z => absurd z (by decide)⟩) (fun u => ⟨fun z => absurd rfl z, fun _ => c_goes hW Im hpn (by omega) ((f.hm hH) p hpn) ?_⟩)
      · unfold o1b; rw [t, if_neg (by decide), u]; rfl
      · unfold w1S; rw [t, if_neg (by decide), u, if_pos rfl]
      · intro hk; rw [hk.2] at u; exact absurd u (by decide)
      · have hk : wk h pu st p := ⟨t, u⟩
        rw [Int.toNat_natCast, e6p]
        cases g : goS w H p (thS h pu st) with
        | false =>
          have en : (0 : Int) = nwS w H h pu st p := by unfold nwS; rw [g]; rfl
          refine ⟨fun _ => ⟨fun z => ⟨by omega, walk 0 1 hk en (fun c => absurd c (by decide))⟩, fun z => ⟨by omega, fun z2 => ⟨by omega, walk 0 0 hk en (fun _ => ⟨z, z2⟩)⟩, fun z2 => ⟨by omega, walk 0 1 hk en (fun c => absurd c (by decide))⟩⟩⟩, fun z => absurd rfl z⟩
        | true =>
          have en : mzW (st.2.2 p + 1) = nwS w H h pu st p := by unfold nwS; rw [g]; rfl
          refine ⟨fun z => absurd z (by decide), fun _ => ⟨by omega, fun z => ⟨by omega, walk _ 1 hk en (fun c => absurd c (by decide))⟩, fun z => ⟨by omega, fun z2 => ⟨by omega, walk _ 0 hk en (fun _ => ⟨z, z2⟩)⟩, fun z2 => ⟨by omega, walk _ 1 hk en (fun c => absurd c (by decide))⟩⟩⟩⟩
