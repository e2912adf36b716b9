/-! PAIRS: century -/
def zS (z : Int) : Int := mzW (mzW (z * 1103515245) + 12345)
def zN (z : Int) : Nat → Int
  | 0 => z
  | k + 1 => zS (zN z k)
theorem mzW_bd (x : Int) : -2147483648 ≤ mzW x ∧ mzW x < 2147483648 := by unfold mzW; omega
theorem zN_bd {z : Int} (hz : -2147483648 ≤ z ∧ z < 2147483648) : ∀ k, -2147483648 ≤ zN z k ∧ zN z k < 2147483648 := by
  intro k
  cases k with
  | zero => exact hz
  | succ k => exact mzW_bd _
def drF (w : Wd) (z : Int) (p : Nat) : Bool := decide (mzRem (mzUsh (zN z (p + 1)) 8) 10 < wT w p 6)
def drS (w : Wd) (z : Int) (k : Nat) : Nat := mk k (drF w z)
theorem sa_z (w : Wd) (z : Int) (s : Nat) : saS (setZ w z) s = saS w s := stS_r w (setZ w z) rfl rfl rfl s
theorem setZ_id (w : Wd) : setZ w (wZ w) = w := rfl
def ceF (w : Wd) (z : Int) : Nat → Int × Int
  | 0 => (0, z)
  | k + 1 => ((ceF w z k).1 + (if saS w (drS w (ceF w z k).2 (wN w)) = 2 ^ wN w - 1 then 1 else 0), zN (ceF w z k).2 (wN w))
theorem ceF_bd (w : Wd) {z : Int} (hz : -2147483648 ≤ z ∧ z < 2147483648) : ∀ k, (0 ≤ (ceF w z k).1 ∧ (ceF w z k).1 ≤ k) ∧ -2147483648 ≤ (ceF w z k).2 ∧ (ceF w z k).2 < 2147483648 := by
  intro k
  induction k with
  | zero => exact ⟨⟨Int.le_refl _, Int.le_refl _⟩, hz⟩
  | succ k ih =>
    refine ⟨?_, zN_bd ih.2 _⟩
    show 0 ≤ (ceF w z k).1 + (if _ then (1 : Int) else 0) ∧ (ceF w z k).1 + (if _ then (1 : Int) else 0) ≤ _
    split <;> omega
def ceS (w : Wd) (n : Int) : Int × Wd := if 1 ≤ n ∧ n ≤ 50 then ((ceF w (wZ w) n.toNat).1, setZ w (ceF w (wZ w) n.toNat).2) else (-1000001, w)
theorem ceS_ok {w : Wd} (hW : WOk w) (n : Int) : WOk (ceS w n).2 := by
  unfold ceS
  split
  · exact setZ_ok hW (ceF_bd w hW.2.2.2.2.2.2.2.2.2 _).2
  · exact hW
theorem c_centL {d : Nat} {q : Int → mzM → Prop} {w : Wd} {μ : mzM} {n : Int} {k : Nat} {x2 z : Int} (hW : WOk w) (hz : -2147483648 ≤ z ∧ z < 2147483648)
    (hq2 : ∀ m, NR μ m → MW m 1 (setZ w (zN z (wN w))) → (saS w (drS w z (wN w)) = 2 ^ wN w - 1 → mzWp (d + 6) 71 23 [mzR 0, mzI n, mzI (mzW (x2 + 1)), mzI (mzW ((k : Int) + 1)), none, none] [] m (mzQi q)) ∧ (saS w (drS w z (wN w)) ≠ 2 ^ wN w - 1 → mzWp (d + 6) 71 23 [mzR 0, mzI n, mzI (mzW (x2 + 0)), mzI (mzW ((k : Int) + 1)), none, none] [] m (mzQi q))) :
    ∀ (c p : Nat) (m : mzM), p + c = wN w → NR μ m → MW m 1 (setZ w (zN z p)) → mzWp (d + 6) 71 34 [mzR 0, mzI n, mzI x2, mzI k, mzI (drS w z p : Nat), mzI p] [] m (mzQi q) := by
  have hN := hW.1
  intro c
  induction c with
  | zero =>
    intro p m hp f Im
    have : p = wN w := by omega
    subst this
    have hm : m 1 0 = wN w := Im.1
    have W2 : WOk (setZ w (zN z (wN w))) := setZ_ok hW (zN_bd hz _)
    have dl : drS w z (wN w) < 2 ^ wN (setZ w (zN z (wN w))) := mk_lt _ _
    refine g71_34 _ _ _ _ _ _ ⟨by omega, fun _ => c_brings W2 Im dl (fun a m2 f2 => ?_) (fun a m2 f2 => ?_), fun z => by omega⟩
    · rw [sa_z] at a
      exact ⟨fun c => absurd c (by decide), fun _ => (hq2 m2 (f.tr f2.nr) (f2.mw Im)).1 a⟩
    · rw [sa_z] at a
      exact ⟨fun _ => (hq2 m2 (f.tr f2.nr) (f2.mw Im)).2 a, fun c => absurd rfl c⟩
  | succ c ih =>
    intro p m hp f Im
    have hpn : p < wN w := by omega
    have hm : m 1 0 = wN w := Im.1
    have hz3 : m 1 3 = zN z p := Im.2.2.2.1
    have I2 : MW (mzS m 1 3 (zN z (p + 1))) 1 (setZ w (zN z (p + 1))) := Im.setZ
    have dl := mk_l12 (drF w z) (show p ≤ 12 by omega)
    have go := ih (p + 1) (mzS m 1 3 (zN z (p + 1))) (by omega) (f.st (Or.inl rfl)) I2
    have e6 : mzS m 1 3 (zN z (p + 1)) 1 (4 + 10 * p + 6) = wT w p 6 := I2.T hpn (by omega)
    have ez : mzW (mzW (m 1 3 * 1103515245) + 12345) = zN z (p + 1) := by rw [hz3]; rfl
    refine g71_34 _ _ _ _ _ _ ⟨by omega, fun z => by omega, fun _ => ⟨by decide, by decide, by decide, by decide, ?_⟩⟩
    rw [ez]
    refine c_of (t := 6) (by omega) (by decide) ?_
    rw [e6, w1 (by omega)]
    have es : drS w z (p + 1) = mk p (drF w z) ||| if drF w z p = true then 2 ^ p else 0 := rfl
    have e0 : drS w z p = mk p (drF w z) := rfl
    rw [es] at go
    rw [e0]
    refine ⟨fun y => ?_, fun y => ?_⟩
    · have e : drF w z p = false := decide_eq_false (Int.not_lt.mpr y)
      have n0 := nOr (a := mk p (drF w z)) (b := 0) (Nat.lt_trans dl (by decide)) (by decide)
      rw [e, if_neg (by decide)] at go
      rw [show ((0 : Nat) : Int) = 0 from rfl] at n0
      rw [n0]
      exact go
    · have e : drF w z p = true := decide_eq_true y
      rw [e, if_pos rfl] at go
      have := pw12 (show p < 12 by omega)
      rw [nPow (by omega), nOr (Nat.lt_trans dl (by decide)) (Nat.lt_trans this (by decide))]
      exact go
theorem c_century {d : Nat} {q : Int → mzM → Prop} {n : Int} {μ : mzM} {w : Wd} (hW : WOk w) (I : MI μ w) (h : ∀ μ', FM μ μ' → MI μ' (ceS w n).2 → q (ceS w n).1 μ') : mzCl (d + 6) 71 [mzR 0, mzI n] μ (mzQi q) := by
  have hN := hW.1
  have hz := hW.2.2.2.2.2.2.2.2.2
  unfold ceS at h
  refine g71_e _ _ (c_in (fun a1 a2 => ⟨fun _ => ?_, fun z => absurd z (by decide)⟩) (fun a => ⟨fun z => absurd rfl z, fun _ => c_fd (by omega) I ?_⟩))
  · rw [if_pos ⟨a1, a2⟩] at h
    obtain ⟨n, rfl⟩ : ∃ k : Nat, n = k := ⟨n.toNat, by omega⟩
    rw [Int.toNat_natCast] at h
    have L : ∀ (c i : Nat) (m : mzM), i + c = n → NR μ m → MW m 1 (setZ w (ceF w (wZ w) i).2) → mzWp (d + 6) 71 23 [mzR 0, mzI n, mzI (ceF w (wZ w) i).1, mzI i, none, none] [] m (mzQi q) := by
      intro c
      induction c with
      | zero =>
        intro i m hi f Im
        have : i = n := by omega
        subst this
        exact g71_23 _ _ _ _ ⟨fun _ => h m f.fm ⟨Im, I.2.r rfl rfl rfl (f 0 4 (by decide) (by decide) (by decide) (by decide) (Or.inr (by decide))) (fun j => f 8 j (by decide) (by decide) (by decide) (by decide) (Or.inl (by decide)))⟩, fun z => by omega⟩
      | succ c ih =>
        intro i m hi f Im
        have bd := ceF_bd w hz i
        refine g71_23 _ _ _ _ ⟨fun z => by omega, fun _ => ?_⟩
        refine c_centL (z := (ceF w (wZ w) i).2) hW bd.2 (fun m2 f2 I2 => ?_) (wN w) 0 m (Nat.zero_add _) NR.rf Im
        have go := ih (i + 1) m2 (by omega) (f.tr f2) I2
        have e : (ceF w (wZ w) (i + 1)).1 = (ceF w (wZ w) i).1 + (if saS w (drS w (ceF w (wZ w) i).2 (wN w)) = 2 ^ wN w - 1 then 1 else 0) := rfl
        rw [e] at go
        rw [w1 (by omega)]
        refine ⟨fun a => ?_, fun a => ?_⟩
        · rw [if_pos a] at go
          rw [wid (by omega) (by omega)]
          exact go
        · rw [if_neg a] at go
          rw [wid (by omega) (by omega)]
          exact go
    exact L n 0 μ (Nat.zero_add _) NR.rf I.1
  · rw [if_neg (by omega)] at h; exact h
/-- the class draws -/
def DF (μ μ' : mzM) : Prop := ∀ k j, (k ≠ 26 ∨ j ≠ 4) → μ' k j = μ k j
theorem k_drawn {d : Nat} {q : Int → mzM → Prop} {w : Wd} {μ : mzM} {z : Int} (hW : WOk w) (hz : -2147483648 ≤ z ∧ z < 2147483648) (C : CW μ 0 (setZ w z)) (h : ∀ m, DF μ m → CW m 0 (setZ w (zN z (wN w))) → q (drS w z (wN w) : Nat) m) : mzCl (d + 1) 185 [mzR 14] μ (mzQi q) := by
  have hN := hW.1
  have L : ∀ (c p : Nat) (m : mzM), p + c = wN w → DF μ m → CW m 0 (setZ w (zN z p)) → mzWp (d + 1) 185 4 [mzR 14, mzI (drS w z p : Nat), mzI p] [] m (mzQi q) := by
    intro c
    induction c with
    | zero =>
      intro p m hp f Cm
      have : p = wN w := by omega
      subst this
      have hm : m 26 0 = wN w := Cm.1
      exact g185_4 _ _ _ ⟨fun _ => h m f Cm, fun z => by omega⟩
    | succ c ih =>
      intro p m hp f Cm
      have hpn : p < wN w := by omega
      have hm : m 26 0 = wN w := Cm.1
      have hz4 : m 26 4 = zN z p := Cm.2.2.2.2.1
      have C2 : CW (mzS m 26 4 (zN z (p + 1))) 0 (setZ w (zN z (p + 1))) := Cm.setZ' hN
      have dl := mk_l12 (drF w z) (show p ≤ 12 by omega)
      have go := ih (p + 1) (mzS m 26 4 (zN z (p + 1))) (by omega) (fun k j hk => by rw [S_ne (by omega)]; exact f k j hk) C2
      have e6 : mzS m 26 4 (zN z (p + 1)) (52 + p) 6 = wT w p 6 := C2.T hpn (by omega)
      have ez : mzW (mzW (m 26 4 * 1103515245) + 12345) = zN z (p + 1) := by rw [hz4]; rfl
      have es : drS w z (p + 1) = mk p (drF w z) ||| if drF w z p = true then 2 ^ p else 0 := rfl
      have e0 : drS w z p = mk p (drF w z) := rfl
      rw [es] at go
      refine g185_4 _ _ _ ⟨fun z => by omega, fun _ => g101_e _ ?_⟩
      rw [ez, Int.toNat_natCast, e6, w1 (by omega), e0]
      refine ⟨by decide, by omega, ⟨by omega, by decide, by decide⟩, fun y => ?_, fun y => ?_⟩
      · have e : drF w z p = false := decide_eq_false (Int.not_lt.mpr y)
        rw [e, if_neg (by decide), Nat.or_zero] at go
        exact go
      · have e : drF w z p = true := decide_eq_true y
        rw [e, if_pos rfl] at go
        have := pw12 (show p < 12 by omega)
        rw [nPow (by omega), nOr (Nat.lt_trans dl (by decide)) (Nat.lt_trans this (by decide))]
        exact go
  exact g185_e _ (L (wN w) 0 μ (Nat.zero_add _) (fun _ _ _ => rfl) C)
theorem k_century {d : Nat} {q : Int → mzM → Prop} {n : Int} {μ : mzM} {w : Wd} (hW : WOk w) (C : CW μ 0 w) (h : ∀ μ', FC μ μ' → CW μ' 0 (ceS w n).2 → q (ceS w n).1 μ') : mzCl (d + 6) 158 [mzR 14, mzI n] μ (mzQi q) := by
  have hN := hW.1
  have hz := hW.2.2.2.2.2.2.2.2.2
  unfold ceS at h
  have fd : ¬ (1 ≤ n ∧ n ≤ 50) → mzCl (d + 5) 173 [mzR 14, mzI (-1000001)] μ (mzQi q) := fun c => k_fd (by omega) hN C (by rw [if_neg c] at h; exact h)
  refine g158_e _ _ ⟨fun z => fd (by omega), fun a1 => ⟨fun a2 => ?_, fun z => fd (by omega)⟩⟩
  rw [if_pos ⟨a1, a2⟩] at h
  obtain ⟨n, rfl⟩ : ∃ k : Nat, n = k := ⟨n.toNat, by omega⟩
  rw [Int.toNat_natCast] at h
  refine k_survey hW C (fun m1 f1 G1 H1 => ?_)
  have L : ∀ (c i : Nat) (m : mzM), i + c = n → FC μ m → GM m w → HC m (wN w) (H0 w) → CW m 0 (setZ w (ceF w (wZ w) i).2) → mzWp (d + 6) 158 29 [mzR 14, mzI n, mzI (ceF w (wZ w) i).1, mzI i] [] m (mzQi q) := by
    intro c
    induction c with
    | zero =>
      intro i m hi f G HH Cm
      have : i = n := by omega
      subst this
      exact g158_29 _ _ _ _ ⟨fun _ => h m f Cm, fun z => by omega⟩
    | succ c ih =>
      intro i m hi f G HH Cm
      have bd := ceF_bd w hz i
      refine g158_29 _ _ _ _ ⟨fun z => by omega, fun _ => k_drawn hW bd.2 Cm (fun m2 f2 C2 => ?_)⟩
      have W2 : WOk (setZ w (zN (ceF w (wZ w) i).2 (wN w))) := setZ_ok hW (zN_bd bd.2 _)
      have G2 : GM m2 w := G.cg hN (fun k j hk => f2 k j (by omega))
      have H2 : HC m2 (wN w) (H0 w) := fun p hp => by rw [f2 17 p (by omega)]; exact HH p hp
      have F2 : FC m m2 := fun k j hk => f2 k j (by unfold scC isW at hk; omega)
      have dl : drS w (ceF w (wZ w) i).2 (wN w) < 2 ^ wN (setZ w (zN (ceF w (wZ w) i).2 (wN w))) := mk_lt _ _
      have e : (ceF w (wZ w) (i + 1)).1 = (ceF w (wZ w) i).1 + (if saS w (drS w (ceF w (wZ w) i).2 (wN w)) = 2 ^ wN w - 1 then 1 else 0) := rfl
      have back : ∀ m3, NF m2 m3 → mzWp (d + 6) 158 29 [mzR 14, mzI n, mzI (ceF w (wZ w) (i + 1)).1, mzI ((i + 1 : Nat) : Int)] [] m3 (mzQi q) := fun m3 f3 => ih (i + 1) m3 (by omega) ((f.tr F2).tr f3.ef.fc) (f3.gm hN G2) (f3.hc H2) (f3.ef.cw hN C2)
      rw [e] at back
      rw [w1 (by omega)]
      refine k_standsAll (H := H0 (setZ w (zN (ceF w (wZ w) i).2 (wN w)))) W2 C2 G2 H2 dl (fun a m3 f3 => ⟨fun c => absurd c (by decide), fun _ => ?_⟩) (fun a m3 f3 => ⟨fun _ => ?_, fun c => absurd rfl c⟩)
      · have a : saS w (drS w (ceF w (wZ w) i).2 (wN w)) = 2 ^ wN w - 1 := (sa_z w _ _).symm.trans a
        have go := back m3 f3
        rw [if_pos a] at go
        rw [wid (by omega) (by omega)]
        exact go
      · have a : saS w (drS w (ceF w (wZ w) i).2 (wN w)) ≠ 2 ^ wN w - 1 := fun c => a ((sa_z w _ _).trans c)
        have go := back m3 f3
        rw [if_neg a, Int.add_zero] at go
        exact go
  exact L n 0 m1 (Nat.zero_add _) f1.fc G1 H1 (f1.cw hN C)
theorem p_century {d : Nat} {μ : mzM} {w : Wd} {q : Int → Int → mzM → Prop} {n : Int} (R : RW μ w) (h : ∀ a μ' w', RW μ' w' → q a a μ') : mzCl (d + 6) 158 [mzR 14, mzI n] μ (mzQi fun a m1 => mzCl (d + 6) 71 [mzR 0, mzI n] m1 (mzQi fun c m2 => q a c m2)) :=
  pair (ceS w n) R (ceS_ok R.1 n) (fun q' z => k_century R.1 R.2.2.1 z) (fun m1 q' _ I z => c_century R.1 I z) h
