/-! PAIRS: order -/
theorem nDiv {a d : Nat} (ha : a < 2147483648) (h0 : 0 < d) (hd : d < 2147483648) : mzDiv (a : Int) (d : Int) = ((a / d : Nat) : Int) := by
  show (nI a / nI d).toInt = _
  rw [pk_div ha h0 hd, nI_int (Nat.lt_of_le_of_lt (Nat.div_le_self _ _) ha)]
theorem nRem {a d : Nat} (ha : a < 2147483648) (h0 : 0 < d) (hd : d < 2147483648) : mzRem (a : Int) (d : Int) = ((a % d : Nat) : Int) := by
  show (nI a - nI a / nI d * nI d).toInt = _
  rw [pk_rem ha h0 hd, nI_int (Nat.lt_of_le_of_lt (Nat.mod_le _ _) ha)]
theorem op_sub {gap y : Nat} : ∀ (k c : Nat) (i : Nat), (opF gap y k c).testBit i = true → (dsF k c).testBit i = true := by
  intro k
  induction k with
  | zero => intro c i h; exact h
  | succ k ih =>
    intro c i h
    have h : ((if k * gap = y then 2 ^ (c % 12) else 0) ||| opF gap y k (c / 12)).testBit i = true := h
    show (2 ^ (c % 12) ||| dsF k (c / 12)).testBit i = true
    rw [Nat.testBit_or] at h ⊢
    cases h2 : (opF gap y k (c / 12)).testBit i with
    | true => rw [ih _ _ h2]; simp
    | false =>
      rw [h2, Bool.or_false] at h
      by_cases e : k * gap = y
      · rw [if_pos e] at h; rw [h]; rfl
      · rw [if_neg e, Nat.zero_testBit] at h; exact absurd h (by decide)
theorem op_lt {gap y k c n : Nat} (h : dsF k c < 2 ^ n) : opF gap y k c < 2 ^ n := Nat.lt_pow_two_of_testBit _ (fun i hi => by
  cases hb : (opF gap y k c).testBit i with
  | false => rfl
  | true => have := op_sub k c i hb; rw [bit_lt h hi] at this; exact absurd this (by decide))
theorem op_one {gap y t nu p : Nat} (hp : p < 12) : opF gap y (t + 1) (12 * nu + p) = (if t * gap = y then 2 ^ p else 0) ||| opF gap y t nu := by
  show (if t * gap = y then 2 ^ ((12 * nu + p) % 12) else 0) ||| opF gap y t ((12 * nu + p) / 12) = _
  rw [show (12 * nu + p) % 12 = p by omega, show (12 * nu + p) / 12 = nu by omega]
theorem ds_one {t nu p : Nat} (hp : p < 12) : dsF (t + 1) (12 * nu + p) = 2 ^ p ||| dsF t nu := by
  show 2 ^ ((12 * nu + p) % 12) ||| dsF t ((12 * nu + p) / 12) = _
  rw [show (12 * nu + p) % 12 = p by omega, show (12 * nu + p) / 12 = nu by omega]
/-- what the reference keeps of the best order -/
def OS (μ : mzM) (S : Int × Int) : Prop := (1 ≤ S.2 ∧ S.2 ≤ 50) ∧ (S.2 = 50 → μ 0 20 = 0) ∧ (S.2 < 50 → μ 0 20 = S.2 ∧ μ 0 21 = S.1)
def TQ (μ μ' : mzM) : Prop := ∀ k j, k ≠ 6 → k ≠ 7 → k ≠ 9 → (k ≠ 0 ∨ (j ≠ 13 ∧ j ≠ 14 ∧ j ≠ 15 ∧ j ≠ 20 ∧ j ≠ 21)) → μ' k j = μ k j
theorem TQ.rf {μ : mzM} : TQ μ μ := fun _ _ _ _ _ _ => rfl
theorem TQ.tr {μ μ' μ'' : mzM} (h : TQ μ μ') (h2 : TQ μ' μ'') : TQ μ μ'' := fun a b h1 h3 h4 h5 => (h2 a b h1 h3 h4 h5).trans (h a b h1 h3 h4 h5)
theorem TQ.st {μ μ' : mzM} {k j : Nat} {v : Int} (h : TQ μ μ') (hs : k = 9 ∨ (k = 0 ∧ (j = 20 ∨ j = 21))) : TQ μ (mzS μ' k j v) := fun a b h1 h2 h3 h4 => by
  rw [S_ne (by omega)]
  exact h a b h1 h2 h3 h4
theorem BF.tq {μ μ' : mzM} (f : BF μ μ') : TQ μ μ' := fun k j h1 h2 _ h4 => f k j h1 h2 (by omega)
theorem TQ.mw {μ μ' : mzM} {w : Wd} (f : TQ μ μ') (h : MW μ 1 w) : MW μ' 1 w := h.cg fun j => f 1 j (by omega) (by omega) (by omega) (by omega)
theorem TQ.fm {μ μ' : mzM} (f : TQ μ μ') : FM μ μ' := fun k j h => f k j (fun c => h (by unfold scM; omega)) (fun c => h (by unfold scM; omega)) (fun c => h (by unfold scM; omega)) (by unfold scM at h; omega)
theorem TQ.mi {μ μ' : mzM} {w : Wd} (f : TQ μ μ') (I : MI μ w) : MI μ' w := I.cg (f 0 4 (by omega) (by omega) (by omega) (by omega)) (fun j => f 1 j (by omega) (by omega) (by omega) (by omega)) (fun j => f 8 j (by omega) (by omega) (by omega) (by omega))
/-- a call of tries with k places left -/
def TrC (w : Wd) (D gap size k : Nat) : Prop := ∀ (q : mzM → Prop) (μ : mzM) (left nu t : Nat) (S : Int × Int), k + t = size → left < 2 ^ wN w → cnt left 12 = k → nu < 12 ^ t → dsF t nu < 2 ^ wN w → (∀ i, left.testBit i = true → (dsF t nu).testBit i = false) → (∀ y, y < 50 → μ 9 y = (opF gap y t nu : Nat)) → MW μ 1 w → OS μ S → (∀ μ', TQ μ μ' → (∀ y, y < 50 → μ' 9 y = (opF gap y t nu : Nat)) → OS μ' (trS w gap size k left nu S) → q μ') → mzCl D 61 [mzR 0, mzI left, mzI gap, mzI t, mzI nu] μ (mzQv q)
theorem tr_0 {d gap size : Nat} {w : Wd} (hW : WOk w) : TrC w (d + 5) gap size 0 := by
  intro q μ left nu t S hk hl hc hnu hds hd ha I hS hq
  have l0 := cnt_0 hl hW.1 hc
  subst l0
  have ts : t = size := by omega
  subst ts
  refine g61_e _ _ _ _ _ ⟨fun z => absurd rfl z, fun _ => c_heldNow hW I (c_begins hW I (fun m f Y HH => ?_))⟩
  refine c_allIn (pus := fun y => opF gap y t nu) (years := 49) hW (f.mw I) (by decide) (hw_lt hW) (fun y => op_lt hds) (fun y hy => by rw [f 9 y (by decide) (by decide) (Or.inl (by decide))]; exact ha y hy) Y HH (fun m2 f2 => ?_)
  have F := f.tr f2
  have ask : ∀ y, y < 50 → m2 9 y = (opF gap y t nu : Nat) := fun y hy => by rw [F 9 y (by decide) (by decide) (Or.inl (by decide))]; exact ha y hy
  have e20 : m2 0 20 = μ 0 20 := F 0 20 (by decide) (by decide) (Or.inr (by decide))
  have e21 : m2 0 21 = μ 0 21 := F 0 21 (by decide) (by decide) (Or.inr (by decide))
  have bd := alF_bd w (H0 w) (hw w) (fun y => opF gap y t nu) 49 0
  have es : trS w gap t 0 0 nu S = visS w gap t nu S := rfl
  rw [es] at hq
  unfold visS at hq
  obtain ⟨hS1, hS2, hS3⟩ := hS
  generalize alF w (H0 w) (hw w) (fun y => opF gap y t nu) 49 0 = r at hq bd ⊢
  have keep : ¬ ((if r < 0 then 50 else r) < S.2) → q m2 := fun c => by
    rw [if_neg c] at hq
    exact hq m2 F.tq ask ⟨hS1, by rw [e20]; exact hS2, by rw [e20, e21]; exact hS3⟩
  have take : 0 ≤ r → r < S.2 → q (mzS (mzS m2 0 20 r) 0 21 nu) := fun c1 c2 => by
    have e : (if r < 0 then 50 else r) = r := if_neg (Int.not_lt.mpr c1)
    rw [e, if_pos c2] at hq
    refine hq _ ((F.tq.st (Or.inr ⟨rfl, Or.inl rfl⟩)).st (Or.inr ⟨rfl, Or.inr rfl⟩)) (fun y hy => by rw [S_ne (Or.inl (by decide)), S_ne (Or.inl (by decide))]; exact ask y hy) ⟨⟨by omega, by omega⟩, fun c => ?_, fun _ => ⟨by rw [S_ne (Or.inr (by decide)), S_eq], S_eq⟩⟩
    have c : r = 50 := c
    omega
  refine ⟨fun z => keep (by rw [if_pos z]; omega), fun z => ⟨fun z2 => take z ?_, fun z2 => ⟨fun z3 => take z ?_, fun z3 => keep ?_⟩⟩⟩
  · rw [e20] at z2
    by_cases c : S.2 = 50
    · omega
    · have := (hS3 (by omega)).1; omega
  · rw [e20] at z2 z3
    by_cases c : S.2 = 50
    · have := hS2 c; omega
    · have := (hS3 (by omega)).1; omega
  · rw [e20] at z2 z3
    rw [if_neg (by omega)]
    by_cases c : S.2 = 50
    · have := hS2 c; omega
    · have := (hS3 (by omega)).1; omega
theorem tr_ix {gap t : Nat} (hg : gap ≤ 5) (ht : t ≤ 3) : mzW ((gap : Int) * (t : Int)) = ((t * gap : Nat) : Int) ∧ ((0 : Int) ≤ ((t * gap : Nat) : Int) ∧ ((t * gap : Nat) : Int) < 50) ∧ t * gap < 50 := by
  have h1 : t * gap ≤ 3 * 5 := Nat.mul_le_mul ht hg
  have h2 : (gap : Int) * (t : Int) = ((t * gap : Nat) : Int) := by rw [Int.mul_comm]; exact (Int.natCast_mul t gap).symm
  rw [h2]
  exact ⟨wid (by omega) (by omega), by omega, by omega⟩
theorem tr_nu {t nu p : Nat} (ht : t ≤ 3) (hn : nu < 12 ^ t) (hp : p < 12) : 12 * nu + p < 12 ^ (t + 1) ∧ mzW ((mzW (12 * (nu : Int))) + (p : Int)) = ((12 * nu + p : Nat) : Int) ∧ mzW ((t : Int) + 1) = ((t + 1 : Nat) : Int) := by
  have h1 : 12 ^ t ≤ 12 ^ 3 := Nat.pow_le_pow_right (by decide) ht
  have h2 : (12 : Nat) ^ 3 = 1728 := by decide
  have h3 : 12 ^ (t + 1) = 12 ^ t * 12 := Nat.pow_succ 12 t
  refine ⟨by omega, ?_, w1 (by omega)⟩
  rw [wid (z := 12 * _) (by omega) (by omega), wid (by omega) (by omega)]
  omega
theorem tr_s {D gap size k : Nat} {w : Wd} (hW : WOk w) (hg : gap ≤ 5) (hsz : size ≤ 4) (hc0 : TrC w D gap size k) : TrC w (D + 1) gap size (k + 1) := by
  have hN := hW.1
  intro q μ left nu t S hk hl hc hnu hds hd ha I hS hq
  have t3 : t ≤ 3 := by omega
  obtain ⟨ix, ib, i50⟩ := tr_ix hg t3
  have ll : left < 2147483648 := Nat.lt_of_lt_of_le hl (Nat.le_trans (pow12 hN) (by decide))
  have lne : (left : Int) ≠ 0 := fun c => by
    have e : left = 0 := Int.ofNat.inj c
    have e0 : cnt 0 12 = 0 := by decide
    rw [e, e0] at hc
    exact absurd hc (by omega)
  have L : ∀ (c p : Nat) (m : mzM), p + c = wN w → TQ μ m → (∀ y, y < 50 → m 9 y = (opF gap y t nu : Nat)) → OS m (fdF (fun p S => if left.testBit p = true then trS w gap size k (nd left (2 ^ p)) (12 * nu + p) S else S) p S) → mzWp (D + 1) 61 58 [mzR 0, mzI left, mzI gap, mzI t, mzI nu, mzI p] [] m (mzQv q) := by
    intro c
    induction c with
    | zero =>
      intro p m hp f ask os
      have : p = wN w := hp
      subst this
      have hm : m 1 0 = wN w := (f.mw I).1
      exact g61_58 _ _ _ _ _ _ ⟨by decide, fun _ => hq m f ask os, fun z => absurd z (by rw [hm]; exact Int.lt_irrefl _)⟩
    | succ c ih =>
      intro p m hp f ask os
      have hpn : p < wN w := by omega
      have hpc : p + 1 + c = wN w := by omega
      obtain ⟨p12, p32, p31, pb, nle, ew⟩ := pl_b hpn hN
      have Im := f.mw I
      have hm : m 1 0 = wN w := Im.1
      have nle2 : ¬ (m 1 0 ≤ (p : Int)) := by rw [hm]; exact nle
      have kp : 2 ^ p < 2147483648 := Nat.lt_trans (pw12 p12) (by decide)
      have ol : opF gap (t * gap) t nu < 2147483648 := Nat.lt_of_lt_of_le (op_lt hds) (Nat.le_trans (pow12 hN) (by decide))
      have next : ∀ m2, TQ μ m2 → (∀ y, y < 50 → m2 9 y = (opF gap y t nu : Nat)) → OS m2 (if left.testBit p = true then trS w gap size k (nd left (2 ^ p)) (12 * nu + p) (fdF (fun p S => if left.testBit p = true then trS w gap size k (nd left (2 ^ p)) (12 * nu + p) S else S) p S) else fdF (fun p S => if left.testBit p = true then trS w gap size k (nd left (2 ^ p)) (12 * nu + p) S else S) p S) → mzWp (D + 1) 61 58 [mzR 0, mzI left, mzI gap, mzI t, mzI nu, mzI ((p + 1 : Nat) : Int)] [] m2 (mzQv q) := fun m2 f2 a2 o2 => ih (p + 1) m2 hpc f2 a2 o2
      refine g61_58 _ _ _ _ _ _ ⟨by decide, fun z => absurd z nle2, fun _ => c_has ll p32 (fun b => ⟨fun _ => ?_, fun z => absurd z (by decide)⟩) (fun b => ⟨fun z => absurd rfl z, fun _ => ?_⟩)⟩
      · obtain ⟨n1, n2, n3⟩ := tr_nu t3 hnu p12
        rw [ix, Int.toNat_natCast, ask _ i50, nPow p31, nOr ol kp, nNot ll, n2, n3, ew]
        refine ⟨ib, ib, ?_⟩
        have db : (dsF t nu).testBit p = false := hd p b
        refine hc0 _ _ (nd left (2 ^ p)) (12 * nu + p) (t + 1) _ (by omega) (nd_lt hl) (by have := cnt_nd b 12; rw [if_pos p12] at this; omega) n1 (by rw [ds_one p12]; exact Nat.or_lt_two_pow (Nat.pow_lt_pow_right (by decide) hpn) hds) (fun i hi => ?_) (fun y hy => ?_) (Im.cg fun j => S_ne (Or.inl (by decide))) ⟨os.1, by rw [S_ne (Or.inl (by decide))]; exact os.2.1, by rw [S_ne (Or.inl (by decide)), S_ne (Or.inl (by decide))]; exact os.2.2⟩ (fun m2 f2 a2 o2 => ?_)
        · rw [nd_bit, Nat.testBit_two_pow] at hi
          rw [ds_one p12, Nat.testBit_or, Nat.testBit_two_pow]
          by_cases c : p = i
          · rw [decide_eq_true c] at hi; simp at hi
          · rw [decide_eq_false c] at hi ⊢
            simp at hi
            rw [hd i hi]
            rfl
        · rw [op_one p12]
          by_cases c : t * gap = y
          · rw [if_pos c, ← c, S_eq, Nat.or_comm]
          · rw [if_neg c, Nat.zero_or, S_ne (Or.inr (fun e => c e.symm))]; exact ask y hy
        · have F2 : TQ μ m2 := (f.st (Or.inl rfl)).tr f2
          have e9 : m2 9 (t * gap) = ((2 ^ p ||| opF gap (t * gap) t nu : Nat) : Int) := by rw [a2 _ i50, op_one p12, if_pos rfl]
          have ol2 : 2 ^ p ||| opF gap (t * gap) t nu < 2147483648 := Nat.or_lt_two_pow (n := 31) kp ol
          have eb : nd (2 ^ p ||| opF gap (t * gap) t nu) (2 ^ p) = opF gap (t * gap) t nu := by
            refine Nat.eq_of_testBit_eq (fun i => ?_)
            rw [nd_bit, Nat.testBit_or, Nat.testBit_two_pow]
            by_cases c : p = i
            · have : (opF gap (t * gap) t nu).testBit i = false := by
                rw [← c]
                cases hb : (opF gap (t * gap) t nu).testBit p with
                | false => rfl
                | true => rw [op_sub t nu p hb] at db; exact absurd db (by decide)
              rw [decide_eq_true c, this]
              rfl
            · rw [decide_eq_false c]
              simp
          rw [e9, nNot ol2, eb]
          refine ⟨ib, ib, next _ (F2.st (Or.inl rfl)) (fun y hy => ?_) ?_⟩
          · by_cases c : t * gap = y
            · rw [← c, S_eq]
            · rw [S_ne (Or.inr (fun e => c e.symm)), a2 y hy, op_one p12, if_neg c, Nat.zero_or]
          · rw [if_pos b]
            exact ⟨o2.1, by rw [S_ne (Or.inl (by decide))]; exact o2.2.1, by rw [S_ne (Or.inl (by decide)), S_ne (Or.inl (by decide))]; exact o2.2.2⟩
      · rw [ew]
        exact next m f ask (by rw [if_neg (by rw [b]; decide)]; exact os)
  refine g61_e _ _ _ _ _ ⟨fun _ => ?_, fun z => absurd z lne⟩
  exact L (wN w) 0 μ (Nat.zero_add _) TQ.rf ha hS
theorem tr_all {d gap size : Nat} {w : Wd} (hW : WOk w) (hg : gap ≤ 5) (hsz : size ≤ 4) : TrC w (d + 9) gap size size := by
  have h0 : ∀ e, TrC w (e + 5) gap size 0 := fun e => tr_0 hW
  have h1 : ∀ e, TrC w (e + 6) gap size 1 := fun e => tr_s hW hg hsz (h0 e)
  have h2 : ∀ e, TrC w (e + 7) gap size 2 := fun e => tr_s hW hg hsz (h1 e)
  have h3 : ∀ e, TrC w (e + 8) gap size 3 := fun e => tr_s hW hg hsz (h2 e)
  have h4 : ∀ e, TrC w (e + 9) gap size 4 := fun e => tr_s hW hg hsz (h3 e)
  have c : size = 0 ∨ size = 1 ∨ size = 2 ∨ size = 3 ∨ size = 4 := by omega
  rcases c with c | c | c | c | c
  · rw [c] at h0 ⊢; exact h0 (d + 4)
  · rw [c] at h1 ⊢; exact h1 (d + 3)
  · rw [c] at h2 ⊢; exact h2 (d + 2)
  · rw [c] at h3 ⊢; exact h3 (d + 1)
  · rw [c] at h4 ⊢; exact h4 d
/-- the answer -/
def oAn (S : Int × Int) (k : Int) : Int := if S.2 = 50 then -1000004 else if k = 0 then S.2 else S.1
def ordF (w : Wd) (gap s : Nat) : Int × Int := trS w gap (cnt s 12) (cnt s 12) s 0 (-1, 50)
def ordS (w : Wd) (s g k : Int) : Int × Wd := (if (0 ≤ s ∧ s < (2 ^ wN w : Nat)) ∧ (1 ≤ cnt s.toNat 12 ∧ cnt s.toNat 12 ≤ 4) ∧ (0 ≤ g ∧ g ≤ 5) ∧ 0 ≤ k ∧ k ≤ 1 then oAn (ordF w g.toNat s.toNat) k else -1000001, w)
theorem c_order {d : Nat} {q : Int → mzM → Prop} {s g k : Int} {μ : mzM} {w : Wd} (hW : WOk w) (I : MI μ w) (h : ∀ μ', FM μ μ' → MI μ' (ordS w s g k).2 → q (ordS w s g k).1 μ') : mzCl (d + 10) 62 [mzR 0, mzI s, mzI g, mzI k] μ (mzQi q) := by
  have hN := hW.1
  unfold ordS at h
  have fd : ¬ ((0 ≤ s ∧ s < (2 ^ wN w : Nat)) ∧ (1 ≤ cnt s.toNat 12 ∧ cnt s.toNat 12 ≤ 4) ∧ (0 ≤ g ∧ g ≤ 5) ∧ 0 ≤ k ∧ k ≤ 1) → mzCl (d + 9) 1 [mzR 0, mzI (-1000001)] μ (mzQi q) := fun c => c_fd (by decide) I (by rw [if_neg c] at h; exact h)
  refine g62_e _ _ _ _ (c_isSet I.1.1 hN (fun s' e1 e2 => ⟨fun z => absurd z (by decide), fun _ => ?_⟩) (fun a => ⟨fun _ => fd (by omega), fun z => absurd rfl z⟩))
  subst e1
  rw [Int.toNat_natCast] at h fd
  have s31 : s' < 2147483648 := Nat.lt_of_lt_of_le e2 (Nat.le_trans (pow12 hN) (by decide))
  refine c_many s31 (c_in (fun a1 a2 => ⟨fun z => absurd z (by decide), fun _ => c_in (fun b1 b2 => ⟨fun z => absurd z (by decide), fun _ => c_in (fun x1 x2 => ⟨fun _ => c_asksNothing (fun m1 f1 k1 => ?_), fun z => absurd z (by decide)⟩) (fun a => ⟨fun z => absurd rfl z, fun _ => fd (by omega)⟩)⟩) (fun a => ⟨fun _ => fd (by omega), fun z => absurd rfl z⟩)⟩) (fun a => ⟨fun _ => fd (by omega), fun z => absurd rfl z⟩))
  rw [if_pos (by omega)] at h
  obtain ⟨g, rfl⟩ : ∃ k : Nat, g = k := ⟨g.toNat, by omega⟩
  rw [Int.toNat_natCast] at h
  have F1 : TQ μ (mzS (mzS m1 0 20 0) 0 21 0) := fun k j _ _ h9 h0 => by rw [S_ne (by omega), S_ne (by omega)]; exact f1 k j h9
  refine tr_all (d := d) (gap := g) (size := cnt s' 12) hW (by omega) (by omega) _ _ s' 0 0 (-1, 50) (Nat.add_zero _) e2 rfl (Nat.pow_pos (by decide)) (Nat.pow_pos (by decide)) (fun i _ => Nat.zero_testBit i) (fun y hy => by rw [S_ne (Or.inl (by decide)), S_ne (Or.inl (by decide))]; exact k1 y hy) (F1.mw I.1) ⟨by decide, fun _ => by rw [S_ne (Or.inr (by decide)), S_eq], fun c => absurd c (by decide)⟩ (fun m2 f2 _ os => ?_)
  have F2 := F1.tr f2
  have os : OS m2 (ordF w g s') := os
  unfold oAn at h
  generalize ordF w g s' = S at h os
  obtain ⟨o1, o2, o3⟩ := os
  refine ⟨fun z => ?_, fun z => ?_⟩
  · have c : ¬ S.2 = 50 := fun c => z (o2 c)
    obtain ⟨o4, o5⟩ := o3 (by omega)
    rw [if_neg c] at h
    refine ⟨fun z0 => ?_, fun z0 => ?_⟩
    · rw [if_neg z0] at h; rw [o5]; exact h m2 F2.fm (F2.mi I)
    · rw [if_pos z0] at h; rw [o4]; exact h m2 F2.fm (F2.mi I)
  · have c : S.2 = 50 := by
      by_cases c : S.2 = 50
      · exact c
      · have := (o3 (by omega)).1; omega
    rw [if_pos c] at h
    exact c_fd (by decide) (F2.mi I) (fun m3 f3 i3 => h m3 (F2.fm.tr f3) i3)
