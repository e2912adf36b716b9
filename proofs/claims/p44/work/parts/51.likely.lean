/-! WHO MUST BE PUSHED; likely -/
theorem gtS_all {P : Nat → Nat → Int} (h : ∀ f t, 0 ≤ P f t ∧ P f t ≤ 99) (p s n : Nat) : ∀ k, k ≤ n → gtS P p s k ≤ gtS P p (2 ^ n - 1) k := by
  intro k
  induction k with
  | zero => intro _; exact Int.le_refl _
  | succ k ih =>
    intro hk
    have i1 := ih (by omega)
    have pk := (h k p).1
    unfold gtS
    rw [Nat.testBit_two_pow_sub_one, if_pos (decide_eq_true (by omega : k < n))]
    split
    · omega
    · omega
theorem mu_go {w : Wd} (hW : WOk w) {p s : Nat} (h : muF w p = true) : goS w (H0 w) p s = false := by
  have h1 := gtS_all hW.2.2.2.2.2.1 p s (wN w) (wN w) (Nat.le_refl _)
  have h2 : gtS (wP w) p (2 ^ wN w - 1) (wN w) < H0 w p := of_decide_eq_true h
  unfold goS
  rw [decide_eq_false (Int.not_le.mpr (Int.lt_of_le_of_lt h1 h2)), Bool.false_and]
theorem mu_no {w : Wd} (hW : WOk w) {p s h : Nat} (hp : p < wN w) (hm : muF w p = true) (hs : s.testBit p = false) : ∀ k, (ysS w (H0 w) h (s1P s) k st0).1.testBit p = false := by
  intro k
  induction k with
  | zero => exact Nat.zero_testBit p
  | succ k ih =>
    have t3 : (0 : Int) ≤ wT w p 3 := by
      have := (hW.T hp (t := 3) (by decide)).1
      have e0 : tlo 3 = 0 := by decide
      omega
    have e : o1b w (H0 w) h (s1P s k) (ysS w (H0 w) h (s1P s) k st0) p = false := by
      have u : (s1P s k).testBit p = false := by
        unfold s1P
        split
        · exact hs
        · exact Nat.zero_testBit p
      have t : (thS h (s1P s k) (ysS w (H0 w) h (s1P s) k st0)).testBit p = false := by
        unfold thS
        rw [Nat.testBit_or, nd_bit, nd_bit, ih, u]
        rfl
      obtain ⟨R1, R2, R3, R4, R5, R6⟩ := yr_R w (H0 w) h (s1P s k) (ysS w (H0 w) h (s1P s) k st0) p hp
      cases hd : (h ||| (ysS w (H0 w) h (s1P s) k st0).2.1).testBit p with
      | true => exact (R4 t hd).1
      | false => rw [(R6 t hd (mu_go hW hm)).1, decide_eq_false (Int.not_lt.mpr t3)]
    show (nd (o1S w (H0 w) h (s1P s k) (ysS w (H0 w) h (s1P s) k st0)) _).testBit p = false
    rw [nd_bit]
    unfold o1S
    rw [mk_bit, e]
    simp
/-- who stands all holds those that must be pushed -/
theorem mu_sub {w : Wd} (hW : WOk w) {s : Nat} (h : saS w s = 2 ^ wN w - 1) : s &&& muS w = muS w := by
  refine Nat.eq_of_testBit_eq (fun p => ?_)
  rw [Nat.testBit_and]
  unfold muS
  rw [mk_bit]
  by_cases c : p < wN w
  · rw [decide_eq_true c, Bool.true_and]
    cases hm : muF w p with
    | false => simp
    | true =>
      cases hs : s.testBit p with
      | true => rfl
      | false =>
        have := mu_no (h := hw w) hW c hm hs 24
        have e : (saS w s).testBit p = false := this
        rw [h, Nat.testBit_two_pow_sub_one, decide_eq_true c] at e
        exact absurd e (by decide)
  · rw [decide_eq_false c]
    simp
def wgtS (w : Wd) (s : Nat) : Nat → Int
  | 0 => 1
  | k + 1 => wgtS w s k * (if s.testBit k = true then wT w k 6 else 10 - wT w k 6)
theorem wgtS_bd {w : Wd} (hW : WOk w) (s : Nat) : ∀ k, k ≤ wN w → 0 ≤ wgtS w s k ∧ wgtS w s k ≤ ((10 ^ k : Nat) : Int) := by
  intro k
  induction k with
  | zero =>
    intro _
    show (0 : Int) ≤ 1 ∧ (1 : Int) ≤ ((10 ^ 0 : Nat) : Int)
    exact ⟨by decide, by decide⟩
  | succ k ih =>
    intro hk
    obtain ⟨i1, i2⟩ := ih (by omega)
    have t6 := hW.T (show k < wN w by omega) (t := 6) (by decide)
    have e0 : tlo 6 = 0 := by decide
    have e1 : thi (wN w) 6 = 10 := by simp [thi]
    have c1 : 0 ≤ (if s.testBit k = true then wT w k 6 else 10 - wT w k 6) := by split <;> omega
    have c2 : (if s.testBit k = true then wT w k 6 else 10 - wT w k 6) ≤ 10 := by split <;> omega
    have ep : ((10 ^ (k + 1) : Nat) : Int) = ((10 ^ k : Nat) : Int) * 10 := by rw [Nat.pow_succ]; exact Int.natCast_mul _ _
    unfold wgtS
    rw [ep]
    exact ⟨Int.mul_nonneg i1 c1, Int.mul_le_mul i2 c2 c1 (Int.natCast_nonneg _)⟩
theorem wgt_le {w : Wd} (hW : WOk w) (s k : Nat) (hk : k ≤ wN w) : 0 ≤ wgtS w s k ∧ wgtS w s k ≤ 1000000000000 := by
  have h1 := wgtS_bd hW s k hk
  have h2 : 10 ^ k ≤ 10 ^ 12 := Nat.pow_le_pow_right (by decide) (Nat.le_trans hk hW.1)
  have h3 : (10 : Nat) ^ 12 = 1000000000000 := by decide
  omega
def liF (w : Wd) : Nat → Int
  | 0 => 0
  | k + 1 => liF w k + if saS w k = 2 ^ wN w - 1 then wgtS w k (wN w) else 0
theorem liF_bd {w : Wd} (hW : WOk w) : ∀ k, 0 ≤ liF w k ∧ liF w k ≤ 1000000000000 * k := by
  intro k
  induction k with
  | zero =>
    show (0 : Int) ≤ 0 ∧ (0 : Int) ≤ 1000000000000 * ((0 : Nat) : Int)
    exact ⟨by decide, by decide⟩
  | succ k ih =>
    have := wgt_le hW k (wN w) (Nat.le_refl _)
    unfold liF
    split <;> omega
theorem li_one {w : Wd} {s k : Nat} : wgtS w s (k + 1) = wgtS w s k * (if s.testBit k = true then wT w k 6 else 10 - wT w k 6) := rfl
theorem T6_ok {w : Wd} (hW : WOk w) {p : Nat} (hp : p < wN w) : 0 ≤ wT w p 6 ∧ wT w p 6 ≤ 10 := hW.T hp (t := 6) (by decide)
theorem c_likely {d : Nat} {q : Int → mzM → Prop} {μ : mzM} {w : Wd} (hW : WOk w) (I : MI μ w) (h : ∀ μ', FM μ μ' → MI μ' w → q (liF w (2 ^ wN w)) μ') : mzCl (d + 6) 70 [mzR 0] μ (mzQj q) := by
  have hN := hW.1
  have p1 := pow12 hN
  have p0 : 0 < 2 ^ wN w := Nat.pow_pos (by omega)
  refine g70_e _ (c_findStands hW I (fun m1 f1 I1 e8 => ?_))
  -- one weight
  have L2 : ∀ (s : Nat) (x1 : Int) (hq : mzWp (d + 6) 70 8 [mzR 0, mzL (mzX (x1 + wgtS w s (wN w))), none, mzI (mzW ((s : Int) + 1)), none, none, none] [] m1 (mzQj q)) (hs : s < 4096), ∀ (c p : Nat), p + c = wN w → mzWp (d + 6) 70 38 [mzR 0, mzL x1, none, mzI s, mzL (wgtS w s p), none, mzI p] [] m1 (mzQj q) := by
    intro s x1 hq hs c
    induction c with
    | zero =>
      intro p hp
      have : p = wN w := by omega
      subst this
      have hm := I1.1.1
      exact g70_38 _ _ _ _ _ ⟨by decide, fun _ => hq, fun z => by omega⟩
    | succ c ih =>
      intro p hp
      have hpn : p < wN w := by omega
      have hm := I1.1.1
      have go := ih (p + 1) (by omega)
      have bd := wgt_le hW s (p + 1) (by omega)
      have t6 := T6_ok hW hpn
      rw [li_one] at go bd
      refine g70_38 _ _ _ _ _ ⟨by decide, fun z => by omega, fun _ => c_has (by omega) (by omega) (fun t => ⟨fun z => absurd z (by decide), fun _ => c_of (t := 6) (by omega) (by decide) ?_⟩) (fun t => ⟨fun _ => c_of (t := 6) (by omega) (by decide) ?_, fun z => absurd rfl z⟩)⟩
      · rw [I1.1.T hpn (by decide), w1 (by omega)]
        rw [if_pos t] at go bd
        rw [xid (by omega) (by omega)]
        exact go
      · rw [I1.1.T hpn (by decide), w1 (by omega), wid (by omega) (by omega)]
        rw [if_neg (by rw [t]; decide)] at go bd
        rw [xid (by omega) (by omega)]
        exact go
  have L : ∀ (c s : Nat), s + c = 2 ^ wN w → mzWp (d + 6) 70 8 [mzR 0, mzL (liF w s), none, mzI s, none, none, none] [] m1 (mzQj q) := by
    intro c
    induction c with
    | zero =>
      intro s hs
      have : s = 2 ^ wN w := by omega
      subst this
      exact g70_8 _ _ _ (c_every I1.1.1 hN ⟨fun _ => h m1 f1 I1, fun z => by omega⟩)
    | succ c ih =>
      intro s hs
      have go := ih (s + 1) (by omega)
      have lb := liF_bd hW s
      have cb := wgt_le hW s (wN w) (Nat.le_refl _)
      have e : liF w (s + 1) = liF w s + if saS w s = 2 ^ wN w - 1 then wgtS w s (wN w) else 0 := rfl
      rw [e] at go
      refine g70_8 _ _ _ (c_every I1.1.1 hN ⟨fun z => by omega, fun _ => ⟨by omega, c_every I1.1.1 hN ?_⟩⟩)
      rw [Int.toNat_natCast, e8 s (by omega)]
      refine ⟨fun z => ?_, fun z => ?_⟩
      · rw [if_pos (Int.ofNat.inj z)] at go
        refine L2 s (liF w s) ?_ (by omega) (wN w) 0 (Nat.zero_add _)
        rw [xid (by omega) (by omega), w1 (by omega)]
        exact go
      · rw [if_neg (fun c => z (congrArg (fun a : Nat => (a : Int)) c)), Int.add_zero] at go
        rw [w1 (by omega)]
        exact go
  exact L (2 ^ wN w) 0 (Nat.zero_add _)
theorem k_chance {d s : Nat} {q : Int → mzM → Prop} {μ : mzM} {w : Wd} (hW : WOk w) (C : CW μ 0 w) (hs : s < 4096) (h : q (wgtS w s (wN w)) μ) : mzCl d 184 [mzR 14, mzI s] μ (mzQj q) := by
  have hN := hW.1
  have L : ∀ (c p : Nat), p + c = wN w → mzWp d 184 5 [mzR 14, mzI s, mzL (wgtS w s p), none, mzI p, none] [] μ (mzQj q) := by
    intro c
    induction c with
    | zero =>
      intro p hp
      have : p = wN w := by omega
      subst this
      have hm : μ 26 0 = wN w := C.1
      exact g184_5 _ _ _ _ ⟨fun _ => h, fun z => by omega⟩
    | succ c ih =>
      intro p hp
      have hpn : p < wN w := by omega
      have hm : μ 26 0 = wN w := C.1
      have go := ih (p + 1) (by omega)
      have bd := wgt_le hW s (p + 1) (by omega)
      have t6 := T6_ok hW hpn
      rw [li_one] at go bd
      refine g184_5 _ _ _ _ ⟨fun z => by omega, fun _ => ⟨by omega, ?_⟩⟩
      rw [Int.toNat_natCast, C.T hpn (by decide), w1 (by omega), wid (by omega) (by omega)]
      refine ⟨⟨by omega, by decide, by decide⟩, fun z => ?_, fun z => ?_⟩
      · rw [nBit0 (by omega) (by omega)] at z
        rw [if_neg (by rw [z]; decide)] at go bd
        rw [xid (by omega) (by omega)]
        exact go
      · rw [nBit1 (by omega) (by omega)] at z
        rw [if_pos z] at go bd
        rw [xid (by omega) (by omega)]
        exact go
  exact g184_e _ _ (L (wN w) 0 (Nat.zero_add _))
theorem k_likely {d : Nat} {q : Int → mzM → Prop} {μ : mzM} {w : Wd} (hW : WOk w) (C : CW μ 0 w) (h : ∀ μ', FC μ μ' → CW μ' 0 w → q (liF w (2 ^ wN w)) μ') : mzCl (d + 6) 157 [mzR 14] μ (mzQj q) := by
  have hN := hW.1
  have p1 := pow12 hN
  have p0 : 0 < 2 ^ wN w := Nat.pow_pos (by omega)
  refine g157_e _ (k_survey hW C (fun m1 f1 G1 H1 => k_mustBe hW (f1.cw hN C) G1 H1 ?_))
  have ml : muS w < 4096 := mk_l12 _ hN
  have L : ∀ (c s : Nat) (m : mzM), s + c = 2 ^ wN w → NF m1 m → mzWp (d + 6) 157 20 [mzR 14, mzI (muS w : Nat), mzL (liF w s), none, mzI s, none, none] [] m (mzQj q) := by
    intro c
    induction c with
    | zero =>
      intro s m hs f
      have : s = 2 ^ wN w := by omega
      subst this
      have Cm := f.ef.cw hN (f1.cw hN C)
      exact g157_20 _ _ _ _ (k_all Cm.1 hN ⟨fun _ => h m (f1.tr f.ef).fc Cm, fun z => by omega⟩)
    | succ c ih =>
      intro s m hs f
      have Cm := f.ef.cw hN (f1.cw hN C)
      have lb := liF_bd hW s
      have cb := wgt_le hW s (wN w) (Nat.le_refl _)
      have s31 : s < 2147483648 := by omega
      have s12 : s < 4096 := by omega
      have s2n : s < 2 ^ wN w := by omega
      have hsc : s + 1 + c = 2 ^ wN w := by omega
      have e : liF w (s + 1) = liF w s + if saS w s = 2 ^ wN w - 1 then wgtS w s (wN w) else 0 := rfl
      have go0 : (saS w s ≠ 2 ^ wN w - 1 ∨ wgtS w s (wN w) = 0) → ∀ m2, NF m1 m2 → mzWp (d + 6) 157 20 [mzR 14, mzI (muS w : Nat), mzL (liF w s), none, mzI ((s + 1 : Nat) : Int), none, none] [] m2 (mzQj q) := by
        intro hc m2 f2
        have := ih (s + 1) m2 hsc f2
        rw [e] at this
        rcases hc with hc | hc
        · rw [if_neg hc, Int.add_zero] at this; exact this
        · rw [hc, ite_self, Int.add_zero] at this; exact this
      refine g157_20 _ _ _ _ (k_all Cm.1 hN ⟨fun z => by omega, fun _ => ?_⟩)
      rw [nAnd s31, w1 (by omega)]
      refine ⟨fun z => go0 (Or.inl (fun c => z (congrArg (fun a : Nat => (a : Int)) (mu_sub hW c)))) m f, fun z => k_chance hW Cm s12 ⟨fun z2 => ?_, fun z2 => ?_⟩⟩
      · have z3 : ¬ (0 < wgtS w s (wN w)) := fun c => absurd (cmp_gt.mpr c) (Int.not_lt.mpr z2)
        exact go0 (Or.inr (by omega)) m f
      · refine k_standsAll (H := H0 w) hW Cm (f.gm hN G1) (f.hc H1) s2n (fun a m3 f3 => ⟨fun c => absurd c (by decide), fun _ => ?_⟩) (fun a m3 f3 => ⟨fun _ => go0 (Or.inl a) m3 (f.tr f3), fun c => absurd rfl c⟩)
        have := ih (s + 1) m3 hsc (f.tr f3)
        rw [e, if_pos (show saS w s = 2 ^ wN w - 1 from a)] at this
        rw [xid (by omega) (by omega)]
        exact this
  exact L (2 ^ wN w) 0 m1 (Nat.zero_add _) NF.rf
theorem pairj {d yc ym : Nat} {ac am : List mzV} {μ : mzM} {w : Wd} {q : Int → Int → mzM → Prop} (S : Int × Wd) (R : RW μ w) (hS : WOk S.2)
    (kc : ∀ q' : Int → mzM → Prop, (∀ μ', FC μ μ' → CW μ' 0 S.2 → q' S.1 μ') → mzCl d yc ac μ (mzQj q'))
    (cm : ∀ (m1 : mzM) (q' : Int → mzM → Prop), FC μ m1 → MI m1 w → (∀ μ', FM m1 μ' → MI μ' S.2 → q' S.1 μ') → mzCl d ym am m1 (mzQj q'))
    (h : ∀ a μ' w', RW μ' w' → q a a μ') : mzCl d yc ac μ (mzQj fun a m1 => mzCl d ym am m1 (mzQj fun c m2 => q a c m2)) :=
  kc _ fun m1 f1 c1 => cm m1 _ f1 (R.2.1.c f1) fun m2 f2 i2 => h _ m2 S.2 (R.st hS f1 c1 f2 i2)
theorem p_likely {d : Nat} {μ : mzM} {w : Wd} {q : Int → Int → mzM → Prop} (R : RW μ w) (h : ∀ a μ' w', RW μ' w' → q a a μ') : mzCl (d + 6) 157 [mzR 14] μ (mzQj fun a m1 => mzCl (d + 6) 70 [mzR 0] m1 (mzQj fun c m2 => q a c m2)) :=
  pairj (liF w (2 ^ wN w), w) R R.1 (fun q' z => k_likely R.1 R.2.2.1 z) (fun m1 q' _ I z => c_likely R.1 I z) h
