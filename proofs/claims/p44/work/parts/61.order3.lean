/-! PAIRS: order, the class's side -/
theorem k_digitSet {d code size : Nat} {q : Int → mzM → Prop} {μ : mzM} (hc : code < 2147483648) (hsz : size ≤ 4) (h : q (dsF size code : Nat) μ) : mzCl d 181 [mzI code, mzI size] μ (mzQi q) := by
  have L : ∀ (c i acc rest : Nat), i + c = size → rest < 2147483648 → acc < 4096 → acc ||| dsF c rest = dsF size code → mzWp d 181 7 [none, mzI size, mzI acc, mzI rest, mzI i] [] μ (mzQi q) := by
    intro c
    induction c with
    | zero =>
      intro i acc rest hi hr ha e
      have : i = size := hi
      subst this
      have e : acc = dsF i code := by rw [← e]; exact (Nat.or_zero acc).symm
      exact g181_7 _ _ _ _ _ ⟨fun _ => by rw [e]; exact h, fun z => absurd z (Int.lt_irrefl _)⟩
    | succ c ih =>
      intro i acc rest hi hr ha e
      have nle : ¬ ((size : Int) ≤ (i : Int)) := by omega
      have hic : i + 1 + c = size := by omega
      have r12 : rest % 12 < 12 := Nat.mod_lt _ (by decide)
      have kp : 2 ^ (rest % 12) < 4096 := pw12 r12
      have ew : mzW ((i : Int) + 1) = ((i + 1 : Nat) : Int) := w1 (by omega)
      have e1 : mzRem (rest : Int) 12 = ((rest % 12 : Nat) : Int) := nRem (d := 12) hr (by decide) (by decide)
      have e2 : mzDiv (rest : Int) 12 = ((rest / 12 : Nat) : Int) := nDiv (d := 12) hr (by decide) (by decide)
      refine g181_7 _ _ _ _ _ ⟨fun z => absurd z nle, fun _ => ⟨by decide, by decide, ?_⟩⟩
      rw [e1, e2, nPow (Nat.lt_trans r12 (by decide)), nOr (Nat.lt_trans ha (by decide)) (Nat.lt_trans kp (by decide)), ew]
      refine ih (i + 1) _ _ hic (Nat.lt_of_le_of_lt (Nat.div_le_self _ _) hr) (Nat.or_lt_two_pow (n := 12) ha kp) ?_
      rw [← e, Nat.or_assoc]
      rfl
  exact g181_e _ _ _ (L size 0 0 code (Nat.zero_add _) hc (by decide) (Nat.zero_or _))
theorem k_orderPushes {d code size gap y : Nat} {q : Int → mzM → Prop} {μ : mzM} (hc : code < 2147483648) (hsz : size ≤ 4) (hg : gap ≤ 5) (h : q (opF gap y size code : Nat) μ) : mzCl d 183 [mzI code, mzI size, mzI gap, mzI y] μ (mzQi q) := by
  have L : ∀ (c acc rest : Nat) (x6 : Int), c ≤ 4 → x6 = (c : Int) - 1 → rest < 2147483648 → acc < 4096 → acc ||| opF gap y c rest = opF gap y size code → mzWp d 183 11 [none, none, mzI gap, mzI y, mzI acc, mzI rest, mzI x6] [] μ (mzQi q) := by
    intro c
    induction c with
    | zero =>
      intro acc rest x6 hc4 hx hr ha e
      have e : acc = opF gap y size code := by rw [← e]; exact (Nat.or_zero acc).symm
      exact g183_11 _ _ _ _ _ _ ⟨fun _ => by rw [e]; exact h, fun z => by omega⟩
    | succ c ih =>
      intro acc rest x6 hc4 hx hr ha e
      have hx : x6 = (c : Int) := by omega
      subst hx
      obtain ⟨ix, -, -⟩ := tr_ix (t := c) hg (by omega)
      rw [Int.mul_comm] at ix
      have r12 : rest % 12 < 12 := Nat.mod_lt _ (by decide)
      have kp : 2 ^ (rest % 12) < 4096 := pw12 r12
      have c4 : c ≤ 4 := by omega
      have ew : mzW ((c : Int) + (-1)) = (c : Int) - 1 := wid (by omega) (by omega)
      have rl : rest / 12 < 2147483648 := Nat.lt_of_le_of_lt (Nat.div_le_self _ _) hr
      have e1 : mzRem (rest : Int) 12 = ((rest % 12 : Nat) : Int) := nRem (d := 12) hr (by decide) (by decide)
      have e2 : mzDiv (rest : Int) 12 = ((rest / 12 : Nat) : Int) := nDiv (d := 12) hr (by decide) (by decide)
      have e : acc ||| ((if c * gap = y then 2 ^ (rest % 12) else 0) ||| opF gap y c (rest / 12)) = opF gap y size code := e
      refine g183_11 _ _ _ _ _ _ ⟨fun z => absurd z (Int.not_lt.mpr (Int.natCast_nonneg _)), fun _ => ?_⟩
      rw [ix, e1, e2, ew, nPow (Nat.lt_trans r12 (by decide)), nOr (Nat.lt_trans ha (by decide)) (Nat.lt_trans kp (by decide))]
      refine ⟨fun z => ⟨by decide, ?_⟩, fun z => ⟨by decide, by decide, ?_⟩⟩
      · rw [if_neg (fun c => z (by rw [c])), Nat.zero_or] at e
        exact ih _ _ _ c4 rfl rl ha e
      · rw [if_pos (Int.ofNat.inj z), ← Nat.or_assoc] at e
        exact ih _ _ _ c4 rfl rl (Nat.or_lt_two_pow (n := 12) ha kp) e
  have ew : mzW ((size : Int) - 1) = (size : Int) - 1 := wid (by omega) (by omega)
  refine g183_e _ _ _ _ _ ?_
  rw [ew]
  exact L size 0 code _ hsz rfl hc (by decide) (Nat.zero_or _)
theorem k_orderYears {d code size gap : Nat} {q : Int → mzM → Prop} {μ : mzM} {w : Wd} (hW : WOk w) (C : CW μ 0 w) (G : GM μ w) (HH : HC μ (wN w) (H0 w)) (hc : code < 2147483648) (hsz : size ≤ 4) (hg : gap ≤ 5) (hds : dsF size code < 2 ^ wN w)
    (h : ∀ μ', NF μ μ' → q (if alF w (H0 w) (hw w) (fun y => opF gap y size code) 49 0 < 0 then 50 else alF w (H0 w) (hw w) (fun y => opF gap y size code) 49 0) μ') : mzCl (d + 3) 182 [mzR 14, mzI code, mzI size, mzI gap] μ (mzQi q) := by
  have hN := hW.1
  have L : ∀ (c i : Nat) (x4 : Int) (m : mzM), i + c = 49 → x4 = ((i + 1 : Nat) : Int) → NF μ m → YC m (wN w) (hw w) (ysS w (H0 w) (hw w) (fun y => opF gap y size code) i st0) → (∀ μ', NF μ μ' → q (if alF w (H0 w) (hw w) (fun y => opF gap y size code) c i < 0 then 50 else alF w (H0 w) (hw w) (fun y => opF gap y size code) c i) μ') → mzWp (d + 3) 182 17 [mzR 14, mzI code, mzI size, mzI gap, mzI x4] [] m (mzQi q) := by
    intro c
    induction c with
    | zero =>
      intro i x4 m hi hx f Y hq
      have : i = 49 := hi
      subst this
      subst hx
      have hq := hq m f
      rw [alF, if_pos (by decide)] at hq
      exact g182_17 _ _ _ _ _ ⟨fun _ => hq, fun z => absurd z (by decide)⟩
    | succ c ih =>
      intro i x4 m hi hx f Y hq
      subst hx
      have i49 : ((i + 1 : Nat) : Int) ≤ 49 := by omega
      have hic : i + 1 + c = 49 := by omega
      have e1 : mzW (((i + 1 : Nat) : Int) - 1) = (i : Int) := by rw [wid (by omega) (by omega)]; omega
      have ew : mzW (((i + 1 : Nat) : Int) + 1) = ((i + 1 + 1 : Nat) : Int) := w1 (by omega)
      have Cm := f.ef.cw hN C
      refine g182_17 _ _ _ _ _ ⟨fun z => absurd z (Int.not_lt.mpr i49), fun _ => ?_⟩
      rw [e1, ew]
      refine k_orderPushes hc hsz hg (k_yr (k := i) (pus := fun y => opF gap y size code) hW Cm (f.gm hN G) (f.hc HH) (hw_lt hW) (op_lt hds) Y (fun r m2 f2 Y2 _ => ?_))
      have F2 := f.tr f2.nf
      have e7 : m2 16 7 = ((ysS w (H0 w) (hw w) (fun y => opF gap y size code) (i + 1) st0).1 : Int) := Y2.1
      refine k_all (F2.ef.cw hN C).1 hN ?_
      rw [e7]
      rw [alF] at hq
      refine ⟨fun z => ?_, fun z => ?_⟩
      · have cA : ¬ (ysS w (H0 w) (hw w) (fun y => opF gap y size code) (i + 1) st0).1 = 2 ^ wN w - 1 := fun c => z (by rw [c])
        rw [if_neg cA] at hq
        exact ih (i + 1) _ m2 hic rfl F2 Y2 hq
      · have cA : (ysS w (H0 w) (hw w) (fun y => opF gap y size code) (i + 1) st0).1 = 2 ^ wN w - 1 := Int.ofNat.inj z
        rw [if_pos cA, if_neg (Int.not_lt.mpr (Int.natCast_nonneg _))] at hq
        exact hq m2 F2
  refine g182_e _ _ _ _ ?_
  rw [k_held C]
  exact k_begin (n := wN w) hN (fun m f Y => L 49 0 1 m rfl rfl f Y h)
def okO (S : Int × Int) : Prop := (S.1 = -1 ∧ S.2 = 50) ∨ (0 ≤ S.1 ∧ S.2 < 50)
theorem vis_ok {w : Wd} {gap size code : Nat} {S : Int × Int} (h : okO S) : okO (visS w gap size code S) := by
  unfold visS
  generalize (if alF w (H0 w) (hw w) (fun y => opF gap y size code) 49 0 < 0 then 50 else alF w (H0 w) (hw w) (fun y => opF gap y size code) 49 0) = r
  by_cases c : r < S.2
  · rw [if_pos c]
    refine Or.inr ⟨Int.natCast_nonneg _, ?_⟩
    show r < 50
    rcases h with h | h
    · have := h.2; omega
    · have := h.2; omega
  · rw [if_neg c]; exact h
theorem fd_ok (w : Wd) (gap size set : Nat) : ∀ n, okO (fdF (coT w gap size set) n (-1, 50)) := by
  intro n
  induction n with
  | zero => exact Or.inl ⟨rfl, rfl⟩
  | succ n ih =>
    show okO (coT w gap size set n (fdF (coT w gap size set) n (-1, 50)))
    generalize fdF (coT w gap size set) n (-1, 50) = S at ih ⊢
    unfold coT
    by_cases c : dsF size n = set
    · rw [if_pos c]; exact vis_ok ih
    · rw [if_neg c]; exact ih
theorem ord_all {w : Wd} (hN : wN w ≤ 12) (gap s : Nat) (hs : s < 2 ^ wN w) : fdF (coT w gap (cnt s 12) s) (12 ^ cnt s 12) (-1, 50) = ordF w gap s := by
  unfold ordF
  rw [← ord_eq hN gap (cnt s 12) s (cnt s 12) 0 0 s (-1, 50) (Nat.add_zero _) hs rfl (Nat.zero_or s) (fun i _ => Nat.zero_testBit i)]
  refine fd_cg _ (fun c _ S => ?_) _
  rw [Nat.zero_mul, Nat.zero_add]
theorem p12_le {i : Nat} (h : i ≤ 4) : 12 ^ i ≤ 20736 := by
  have := Nat.pow_le_pow_right (n := 12) (by decide) h
  have e : (12 : Nat) ^ 4 = 20736 := by decide
  omega
theorem k_orderL {d gap s : Nat} {q : Int → mzM → Prop} {k : Int} {μ m1 : mzM} {w : Wd} (hW : WOk w) (C : CW μ 0 w) (f1 : EF μ m1) (G : GM m1 w) (HH : HC m1 (wN w) (H0 w)) (hs : s < 2 ^ wN w) (h1 : 1 ≤ cnt s 12) (h4 : cnt s 12 ≤ 4) (hg : gap ≤ 5)
    (h : ∀ μ', FC μ μ' → CW μ' 0 w → q (oAn (ordF w gap s) k) μ') : mzWp (d + 5) 152 68 [mzR 14, mzI s, mzI gap, mzI k, mzI (cnt s 12 : Nat), mzI 1, mzI 0, none, none, none] [] m1 (mzQi q) := by
  have hN := hW.1
  have C1 := f1.cw hN C
  have cl := p12_le h4
  -- the codes
  have L2 : ∀ (c code : Nat) (m : mzM), code + c = 12 ^ cnt s 12 → NF m1 m → mzWp (d + 5) 152 98 [mzR 14, mzI s, mzI gap, mzI k, mzI (cnt s 12 : Nat), mzI ((12 ^ cnt s 12 : Nat) : Int), mzI (fdF (coT w gap (cnt s 12) s) code (-1, 50)).1, mzI (fdF (coT w gap (cnt s 12) s) code (-1, 50)).2, mzI code, none] [] m (mzQi q) := by
    intro c
    induction c with
    | zero =>
      intro code m hc f
      have : code = 12 ^ cnt s 12 := hc
      subst this
      have Cm := f.ef.cw hN C1
      have ok := fd_ok w gap (cnt s 12) s (12 ^ cnt s 12)
      rw [ord_all hN gap s hs] at ok ⊢
      unfold oAn at h
      refine g152_98 _ _ _ _ _ _ _ _ _ ⟨fun _ => ⟨fun z => ?_, fun z => ?_⟩, fun z => absurd z (Int.lt_irrefl _)⟩
      · rcases ok with o | o
        · rw [o.1] at z; exact absurd z (by decide)
        · have c : ¬ (ordF w gap s).2 = 50 := by omega
          rw [if_neg c] at h
          refine ⟨fun z0 => ?_, fun z0 => ?_⟩
          · rw [if_neg z0] at h; exact h m (f1.tr f.ef).fc Cm
          · rw [if_pos z0] at h; exact h m (f1.tr f.ef).fc Cm
      · rcases ok with o | o
        · rw [if_pos o.2] at h
          exact k_fd (by decide) hN Cm (fun m2 f2 c2 => h m2 ((f1.tr f.ef).fc.tr f2) c2)
        · exact absurd o.1 (Int.not_le.mpr z)
    | succ c ih =>
      intro code m hc f
      have hcc : code + 1 + c = 12 ^ cnt s 12 := by omega
      have lt : ¬ (((12 ^ cnt s 12 : Nat) : Int) ≤ (code : Int)) := by omega
      have c31 : code < 2147483648 := by omega
      have ew : mzW ((code : Int) + 1) = ((code + 1 : Nat) : Int) := by rw [wid (by omega) (by omega)]; omega
      have Cm := f.ef.cw hN C1
      have es : fdF (coT w gap (cnt s 12) s) (code + 1) (-1, 50) = coT w gap (cnt s 12) s code (fdF (coT w gap (cnt s 12) s) code (-1, 50)) := rfl
      refine g152_98 _ _ _ _ _ _ _ _ _ ⟨fun z => absurd z lt, fun _ => k_digitSet c31 h4 ?_⟩
      rw [ew]
      refine ⟨fun z => ?_, fun z => ?_⟩
      · have go := ih (code + 1) m hcc f
        rw [es] at go
        unfold coT at go
        rw [if_neg (fun c => z (by rw [c]))] at go
        exact go
      · have ed : dsF (cnt s 12) code = s := Int.ofNat.inj z
        refine k_orderYears hW Cm (f.gm hN G) (f.hc HH) c31 h4 hg (by rw [ed]; exact hs) (fun m2 f2 => ?_)
        have go := ih (code + 1) m2 hcc (f.tr f2)
        rw [es] at go
        generalize fdF (coT w gap (cnt s 12) s) code (-1, 50) = S at go ⊢
        unfold coT at go
        rw [if_pos ed] at go
        unfold visS at go
        refine ⟨fun z2 => ?_, fun z2 => ?_⟩
        · rw [if_neg (Int.not_lt.mpr z2)] at go; exact go
        · rw [if_pos z2] at go; exact go
  -- how many codes
  have L1 : ∀ (c i : Nat), i + c = cnt s 12 → mzWp (d + 5) 152 68 [mzR 14, mzI s, mzI gap, mzI k, mzI (cnt s 12 : Nat), mzI ((12 ^ i : Nat) : Int), mzI i, none, none, none] [] m1 (mzQi q) := by
    intro c
    induction c with
    | zero =>
      intro i hi
      have : i = cnt s 12 := hi
      rw [this]
      exact g152_68 _ _ _ _ _ _ _ ⟨fun _ => L2 (12 ^ cnt s 12) 0 m1 (Nat.zero_add _) NF.rf, fun z => absurd z (Int.lt_irrefl _)⟩
    | succ c ih =>
      intro i hi
      have hic : i + 1 + c = cnt s 12 := by omega
      have nle : ¬ (((cnt s 12 : Nat) : Int) ≤ (i : Int)) := by omega
      have ew : mzW ((i : Int) + 1) = ((i + 1 : Nat) : Int) := w1 (by omega)
      have b := p12_le (show i ≤ 4 by omega)
      have e12 : mzW (((12 ^ i : Nat) : Int) * 12) = ((12 ^ (i + 1) : Nat) : Int) := by
        rw [Nat.pow_succ]
        generalize 12 ^ i = N at b ⊢
        rw [wid (by omega) (by omega)]
        exact (Int.natCast_mul N 12).symm
      refine g152_68 _ _ _ _ _ _ _ ⟨fun z => absurd z nle, fun _ => ?_⟩
      rw [e12, ew]
      exact ih (i + 1) hic
  exact L1 (cnt s 12) 0 (Nat.zero_add _)
theorem k_order {d : Nat} {q : Int → mzM → Prop} {s g k : Int} {μ : mzM} {w : Wd} (hW : WOk w) (C : CW μ 0 w) (h : ∀ μ', FC μ μ' → CW μ' 0 (ordS w s g k).2 → q (ordS w s g k).1 μ') : mzCl (d + 10) 152 [mzR 14, mzI s, mzI g, mzI k] μ (mzQi q) := by
  have hN := hW.1
  unfold ordS at h
  have fd : ¬ ((0 ≤ s ∧ s < (2 ^ wN w : Nat)) ∧ (1 ≤ cnt s.toNat 12 ∧ cnt s.toNat 12 ≤ 4) ∧ (0 ≤ g ∧ g ≤ 5) ∧ 0 ≤ k ∧ k ≤ 1) → mzCl (d + 9) 173 [mzR 14, mzI (-1000001)] μ (mzQi q) := fun c => k_fd (by decide) hN C (by rw [if_neg c] at h; exact h)
  refine g152_e _ _ _ _ (k_isSet C.1 hN (fun s' e1 e2 => ⟨fun z => absurd z (by decide), fun _ => ?_⟩) (fun a => ⟨fun _ => ⟨fun _ => fd (fun b => by omega), fun z => absurd z (by decide)⟩, fun z => absurd rfl z⟩))
  subst e1
  rw [Int.toNat_natCast] at h fd
  refine k_bitCount (Nat.lt_of_lt_of_le e2 (pow12 hN)) ⟨fun z => fd (fun b => by omega), fun a1 => ⟨fun z => fd (fun b => by omega), fun a2 => ⟨fun z => fd (fun b => by omega), fun b1 => ⟨fun z => fd (fun b => by omega), fun b2 => ⟨fun z => fd (fun b => by omega), fun x1 => ⟨fun x2 => k_survey hW C (fun m1 f1 G1 H1 => ?_), fun z => fd (fun b => by omega)⟩⟩⟩⟩⟩⟩
  rw [if_pos (by omega)] at h
  obtain ⟨g, rfl⟩ : ∃ k : Nat, g = k := ⟨g.toNat, by omega⟩
  rw [Int.toNat_natCast] at h
  exact k_orderL (d := d + 5) hW C f1 G1 H1 e2 (by omega) (by omega) (by omega) h
theorem p_order {d : Nat} {μ : mzM} {w : Wd} {q : Int → Int → mzM → Prop} {s g k : Int} (R : RW μ w) (h : ∀ a μ' w', RW μ' w' → q a a μ') : mzCl (d + 10) 152 [mzR 14, mzI s, mzI g, mzI k] μ (mzQi fun a m1 => mzCl (d + 10) 62 [mzR 0, mzI s, mzI g, mzI k] m1 (mzQi fun c m2 => q a c m2)) :=
  pair (ordS w s g k) R R.1 (fun q' z => k_order R.1 R.2.2.1 z) (fun m1 q' _ I z => c_order R.1 I z) h
