/-! PAIRS: game: what it comes to -/
def mxF (g : Nat → Int) (free : Nat) : Nat → Int
  | 0 => -1
  | k + 1 => if free.testBit k = true ∧ mxF g free k < g k then g k else mxF g free k
def mnF (g : Nat → Int) (free : Nat) : Nat → Int
  | 0 => 13
  | k + 1 => if free.testBit k = true ∧ g k < mnF g free k then g k else mnF g free k
theorem mxF_s {g : Nat → Int} {free k : Nat} (h : free.testBit k = true) : mxF g free (k + 1) = mzMx (mxF g free k) (g k) := by
  unfold mzMx
  rw [mxF]
  by_cases c : mxF g free k < g k
  · rw [if_pos ⟨h, c⟩, if_pos c]
  · rw [if_neg (fun a => c a.2), if_neg c]
theorem mxF_n {g : Nat → Int} {free k : Nat} (h : free.testBit k = false) : mxF g free (k + 1) = mxF g free k := by
  rw [mxF, if_neg (fun a => by rw [h] at a; exact absurd a.1 (by decide))]
theorem mnF_s {g : Nat → Int} {free k : Nat} (h : free.testBit k = true) : mnF g free (k + 1) = mzMn (mnF g free k) (g k) := by
  unfold mzMn
  rw [mnF]
  by_cases c : g k < mnF g free k
  · rw [if_pos ⟨h, c⟩, if_pos c]
  · rw [if_neg (fun a => c a.2), if_neg c]
theorem mnF_n {g : Nat → Int} {free k : Nat} (h : free.testBit k = false) : mnF g free (k + 1) = mnF g free k := by
  rw [mnF, if_neg (fun a => by rw [h] at a; exact absurd a.1 (by decide))]
theorem mxF_m1 (g : Nat → Int) (free k : Nat) : mxF g free k ≤ mxF g free (k + 1) := by
  rw [mxF]
  split
  · rename_i c; exact Int.le_of_lt c.2
  · exact Int.le_refl _
theorem mnF_m1 (g : Nat → Int) (free k : Nat) : mnF g free (k + 1) ≤ mnF g free k := by
  rw [mnF]
  split
  · rename_i c; exact Int.le_of_lt c.2
  · exact Int.le_refl _
theorem mxF_mono (g : Nat → Int) (free k : Nat) : ∀ c, mxF g free k ≤ mxF g free (k + c) := by
  intro c
  induction c with
  | zero => exact Int.le_refl _
  | succ c ih => exact Int.le_trans ih (mxF_m1 g free (k + c))
theorem mnF_mono (g : Nat → Int) (free k : Nat) : ∀ c, mnF g free (k + c) ≤ mnF g free k := by
  intro c
  induction c with
  | zero => exact Int.le_refl _
  | succ c ih => exact Int.le_trans (mnF_m1 g free (k + c)) ih
theorem mxF_bd {g : Nat → Int} {free : Nat} : ∀ n, (∀ p, p < n → free.testBit p = true → 0 ≤ g p ∧ g p ≤ 12) → -1 ≤ mxF g free n ∧ mxF g free n ≤ 12 := by
  intro n
  induction n with
  | zero => intro _; exact ⟨Int.le_refl _, by unfold mxF; decide⟩
  | succ n ih =>
    intro h
    have i1 := ih (fun p hp => h p (Nat.lt_succ_of_lt hp))
    rw [mxF]
    split
    · rename_i c
      have := h n (Nat.lt_succ_self n) c.1
      exact ⟨by omega, this.2⟩
    · exact i1
theorem mnF_bd {g : Nat → Int} {free : Nat} : ∀ n, (∀ p, p < n → free.testBit p = true → 0 ≤ g p ∧ g p ≤ 12) → 0 ≤ mnF g free n ∧ mnF g free n ≤ 13 := by
  intro n
  induction n with
  | zero => intro _; exact ⟨by unfold mnF; decide, Int.le_refl _⟩
  | succ n ih =>
    intro h
    have i1 := ih (fun p hp => h p (Nat.lt_succ_of_lt hp))
    rw [mnF]
    split
    · rename_i c
      have := h n (Nat.lt_succ_self n) c.1
      exact ⟨this.1, by omega⟩
    · exact i1
theorem mxF_ge {g : Nat → Int} {free k n : Nat} (hk : k < n) (hb : free.testBit k = true) : g k ≤ mxF g free n := by
  have h1 : g k ≤ mxF g free (k + 1) := by
    rw [mxF]
    by_cases c : mxF g free k < g k
    · rw [if_pos ⟨hb, c⟩]; exact Int.le_refl _
    · rw [if_neg (fun a => c a.2)]; exact Int.not_lt.mp c
  have h2 := mxF_mono g free (k + 1) (n - (k + 1))
  rw [show k + 1 + (n - (k + 1)) = n by omega] at h2
  exact Int.le_trans h1 h2
theorem mnF_le {g : Nat → Int} {free k n : Nat} (hk : k < n) (hb : free.testBit k = true) : mnF g free n ≤ g k := by
  have h1 : mnF g free (k + 1) ≤ g k := by
    rw [mnF]
    by_cases c : g k < mnF g free k
    · rw [if_pos ⟨hb, c⟩]; exact Int.le_refl _
    · rw [if_neg (fun a => c a.2)]; exact Int.not_lt.mp c
  have h2 := mnF_mono g free (k + 1) (n - (k + 1))
  rw [show k + 1 + (n - (k + 1)) = n by omega] at h2
  exact Int.le_trans h2 h1
theorem bit_some {a n : Nat} (h0 : a ≠ 0) (h : a < 2 ^ n) : ∃ p, p < n ∧ a.testBit p = true := by
  refine Classical.byContradiction (fun c => h0 (Nat.eq_of_testBit_eq (fun i => ?_)))
  rw [Nat.zero_testBit]
  by_cases hi : i < n
  · cases hb : a.testBit i with
    | false => rfl
    | true => exact absurd ⟨i, hi, hb⟩ c
  · exact bit_lt h (Nat.le_of_not_lt hi)
/-- who can still be taken -/
def fgS (w : Wd) (p h : Nat) : Nat := nd (nd (2 ^ wN w - 1) p) h
theorem fgS_lt (w : Wd) (p h : Nat) : fgS w p h < 2 ^ wN w := nd_lt (nd_lt (Nat.sub_lt (Nat.pow_pos (by decide)) (by decide)))
/-- the other one's turn, if f tells what comes behind -/
def gaO (w : Wd) (f : Nat → Nat → Int) (p h : Nat) : Int := if fgS w p h = 0 then f p h else mnF (fun j => f p (h ||| 2 ^ j)) (fgS w p h) (wN w)
/-- the one's turn -/
def gaN (w : Wd) (f : Nat → Nat → Int) (p h : Nat) : Int := if fgS w p h = 0 then f p h else mxF (fun j => f (p ||| 2 ^ j) h) (fgS w p h) (wN w)
def ga0 (w : Wd) (p h : Nat) : Int := ((cnt (stS w (H0 w) h p) 12 : Nat) : Int)
def Ga01 (w : Wd) (f : Nat → Nat → Int) : Prop := ∀ p h, 0 ≤ f p h ∧ f p h ≤ 12
theorem ga0_bd (w : Wd) : Ga01 w (ga0 w) := fun p h => ⟨Int.natCast_nonneg _, Int.ofNat_le.mpr (cnt12_le _)⟩
theorem gaO_bd {w : Wd} {f : Nat → Nat → Int} (hf : Ga01 w f) : Ga01 w (gaO w f) := fun p h => by
  unfold gaO
  split
  · exact hf p h
  · rename_i c
    obtain ⟨k, hk, hb⟩ := bit_some c (fgS_lt w p h)
    have h1 := mnF_bd (g := fun j => f p (h ||| 2 ^ j)) (free := fgS w p h) (wN w) (fun j _ _ => hf p (h ||| 2 ^ j))
    have h2 := mnF_le (g := fun j => f p (h ||| 2 ^ j)) hk hb
    exact ⟨h1.1, Int.le_trans h2 (hf p (h ||| 2 ^ k)).2⟩
theorem gaN_bd {w : Wd} {f : Nat → Nat → Int} (hf : Ga01 w f) : Ga01 w (gaN w f) := fun p h => by
  unfold gaN
  split
  · exact hf p h
  · rename_i c
    obtain ⟨k, hk, hb⟩ := bit_some c (fgS_lt w p h)
    have h1 := mxF_bd (g := fun j => f (p ||| 2 ^ j) h) (free := fgS w p h) (wN w) (fun j _ _ => hf (p ||| 2 ^ j) h)
    have h2 := mxF_ge (g := fun j => f (p ||| 2 ^ j) h) hk hb
    exact ⟨Int.le_trans (hf (p ||| 2 ^ k) h).1 h2, h1.2⟩
-- the reference
/-- a call of ones (73) or others (74) comes to f -/
def GaC (w : Wd) (D y : Nat) (t : Int) (f : Nat → Nat → Int) : Prop := ∀ (q : Int → mzM → Prop) (μ : mzM) (p h : Nat), p < 2 ^ wN w → h < 4096 → MW μ 1 w → (∀ μ', BF μ μ' → q (f p h) μ') → mzCl D y [mzR 0, mzI t, mzI p, mzI h] μ (mzQi q)
theorem pw_or {n p j : Nat} (hp : p < 2 ^ n) (hj : j < n) : p ||| 2 ^ j < 2 ^ n := Nat.or_lt_two_pow hp (Nat.pow_lt_pow_right (by decide) hj)
theorem fg_m {w : Wd} (hW : WOk w) {p h : Nat} (hp : p < 4096) (hh : h < 4096) : mzAnd (mzAnd ((2 ^ wN w - 1 : Nat) : Int) (mzXor (p : Int) (-1))) (mzXor (h : Int) (-1)) = (fgS w p h : Nat) := by
  have al : 2 ^ wN w - 1 < 2147483648 := Nat.lt_trans (all_lt hW.1) (by decide)
  rw [nNot al, nNot (nd_lt al)]
  rfl
theorem ga_0 {d : Nat} {w : Wd} (hW : WOk w) : GaC w (d + 5) 73 0 (ga0 w) := fun q μ p h hp hh I hq =>
  g73_e _ _ _ _ ⟨fun z => absurd rfl z, fun _ => c_standOf hW I hh hp (fun m f => c_many (Nat.lt_of_lt_of_le (stS_lt hW) (Nat.le_trans (pow12 hW.1) (by decide))) (hq m f))⟩
theorem ga_O {D : Nat} {t : Int} {w : Wd} {f : Nat → Nat → Int} (hW : WOk w) (ht : 1 ≤ t ∧ t ≤ 2) (hf : Ga01 w f) (hc : GaC w D 73 (t - 1) f) : GaC w (D + 1) 74 t (gaO w f) := by
  have hN := hW.1
  have et : mzW (t - 1) = t - 1 := wid (by omega) (by omega)
  intro q μ p h hp hh I hq
  have p12 : p < 4096 := Nat.lt_of_lt_of_le hp (pow12 hN)
  have fl := Nat.lt_of_lt_of_le (fgS_lt w p h) (pow12 hN)
  have f31 : fgS w p h < 2147483648 := Nat.lt_trans fl (by decide)
  have h31 : h < 2147483648 := Nat.lt_trans hh (by decide)
  unfold gaO at hq
  refine g74_e _ _ _ _ (c_every I.1 hN ?_)
  rw [fg_m hW p12 hh]
  refine ⟨fun z => ?_, fun z => ?_⟩
  · have c : ¬ fgS w p h = 0 := fun c => z (by rw [c]; rfl)
    rw [if_neg c] at hq
    have bd := fun k => mnF_bd (g := fun j => f p (h ||| 2 ^ j)) (free := fgS w p h) k (fun j _ _ => hf p (h ||| 2 ^ j))
    have L : ∀ (c k : Nat) (m : mzM), k + c = wN w → BF μ m → mzWp (D + 1) 74 36 [mzR 0, mzI t, mzI p, mzI h, mzI (fgS w p h : Nat), mzI (mnF (fun j => f p (h ||| 2 ^ j)) (fgS w p h) k), mzI k, none] [] m (mzQi q) := by
      intro c
      induction c with
      | zero =>
        intro k m hk fr
        have : k = wN w := hk
        subst this
        have hm : m 1 0 = wN w := (fr.mw I).1
        exact g74_36 _ _ _ _ _ _ _ ⟨by decide, fun _ => hq m fr, fun z => absurd z (by rw [hm]; exact Int.lt_irrefl _)⟩
      | succ c ih =>
        intro k m hk fr
        have hkn : k < wN w := by omega
        have hkc : k + 1 + c = wN w := by omega
        obtain ⟨k12, k32, k31, kb, nle, ew⟩ := pl_b hkn hN
        have Im := fr.mw I
        have hm : m 1 0 = wN w := Im.1
        have nle2 : ¬ (m 1 0 ≤ (k : Int)) := by rw [hm]; exact nle
        refine g74_36 _ _ _ _ _ _ _ ⟨by decide, fun z => absurd z nle2, fun _ => c_has f31 k32 (fun b => ⟨fun z => absurd z (by decide), fun _ => ?_⟩) (fun b => ⟨fun _ => ?_, fun z => absurd rfl z⟩)⟩
        · have kp : 2 ^ k < 4096 := pw12 k12
          rw [et, nPow k31, nOr h31 (Nat.lt_trans kp (by decide)), ew]
          refine hc _ m p (h ||| 2 ^ k) hp (Nat.or_lt_two_pow (n := 12) hh kp) Im (fun m2 f2 => ?_)
          have go := ih (k + 1) m2 hkc (fr.tr f2)
          rw [mnF] at go
          refine ⟨fun z => ?_, fun z => ?_⟩
          · rw [if_neg (fun a => absurd a.2 (Int.not_lt.mpr z))] at go; exact go
          · rw [if_pos ⟨b, z⟩] at go; exact go
        · have go := ih (k + 1) m hkc fr
          rw [mnF_n b] at go
          rw [ew]
          exact ⟨fun _ => go, fun z => absurd z (Int.not_lt.mpr (bd k).2)⟩
    exact L (wN w) 0 μ (Nat.zero_add _) BF.rf
  · have c : fgS w p h = 0 := Int.ofNat.inj z
    rw [if_pos c] at hq
    rw [et]
    exact hc q μ p h hp hh I hq
theorem ga_N {D : Nat} {t : Int} {w : Wd} {f : Nat → Nat → Int} (hW : WOk w) (ht : t ≠ 0) (hf : Ga01 w f) (hc : GaC w D 74 t f) : GaC w (D + 1) 73 t (gaN w f) := by
  have hN := hW.1
  intro q μ p h hp hh I hq
  have p12 : p < 4096 := Nat.lt_of_lt_of_le hp (pow12 hN)
  have p31 : p < 2147483648 := Nat.lt_trans p12 (by decide)
  have fl := Nat.lt_of_lt_of_le (fgS_lt w p h) (pow12 hN)
  have f31 : fgS w p h < 2147483648 := Nat.lt_trans fl (by decide)
  unfold gaN at hq
  refine g73_e _ _ _ _ ⟨fun _ => c_every I.1 hN ?_, fun z => absurd z ht⟩
  rw [fg_m hW p12 hh]
  refine ⟨fun z => ?_, fun z => ?_⟩
  · have c : ¬ fgS w p h = 0 := fun c => z (by rw [c]; rfl)
    rw [if_neg c] at hq
    have bd := fun k => mxF_bd (g := fun j => f (p ||| 2 ^ j) h) (free := fgS w p h) k (fun j _ _ => hf (p ||| 2 ^ j) h)
    have L : ∀ (c k : Nat) (m : mzM), k + c = wN w → BF μ m → mzWp (D + 1) 73 47 [mzR 0, mzI t, mzI p, mzI h, mzI (fgS w p h : Nat), mzI (mxF (fun j => f (p ||| 2 ^ j) h) (fgS w p h) k), mzI k, none] [] m (mzQi q) := by
      intro c
      induction c with
      | zero =>
        intro k m hk fr
        have : k = wN w := hk
        subst this
        have hm : m 1 0 = wN w := (fr.mw I).1
        exact g73_47 _ _ _ _ _ _ _ ⟨by decide, fun _ => hq m fr, fun z => absurd z (by rw [hm]; exact Int.lt_irrefl _)⟩
      | succ c ih =>
        intro k m hk fr
        have hkn : k < wN w := by omega
        have hkc : k + 1 + c = wN w := by omega
        obtain ⟨k12, k32, k31, kb, nle, ew⟩ := pl_b hkn hN
        have Im := fr.mw I
        have hm : m 1 0 = wN w := Im.1
        have nle2 : ¬ (m 1 0 ≤ (k : Int)) := by rw [hm]; exact nle
        refine g73_47 _ _ _ _ _ _ _ ⟨by decide, fun z => absurd z nle2, fun _ => c_has f31 k32 (fun b => ⟨fun z => absurd z (by decide), fun _ => ?_⟩) (fun b => ⟨fun _ => ?_, fun z => absurd rfl z⟩)⟩
        · have kp : 2 ^ k < 4096 := pw12 k12
          rw [nPow k31, nOr p31 (Nat.lt_trans kp (by decide)), ew]
          refine hc _ m (p ||| 2 ^ k) h (pw_or hp hkn) hh Im (fun m2 f2 => ?_)
          have go := ih (k + 1) m2 hkc (fr.tr f2)
          rw [mxF] at go
          refine ⟨fun z => ?_, fun z => ?_⟩
          · rw [if_neg (fun a => absurd a.2 (Int.not_lt.mpr z))] at go; exact go
          · rw [if_pos ⟨b, z⟩] at go; exact go
        · have go := ih (k + 1) m hkc fr
          rw [mxF_n b] at go
          rw [ew]
          exact ⟨fun _ => go, fun z => absurd z (Int.not_lt.mpr (bd k).1)⟩
    exact L (wN w) 0 μ (Nat.zero_add _) BF.rf
  · have c : fgS w p h = 0 := Int.ofNat.inj z
    rw [if_pos c] at hq
    exact hc q μ p h hp hh I hq
/-- what comes of so many turns: the one's, the other's -/
def onV (w : Wd) : Nat → Nat → Nat → Int
  | 0 => ga0 w
  | t + 1 => gaN w (gaO w (onV w t))
def otV (w : Wd) (t : Nat) : Nat → Nat → Int := gaO w (onV w t)
theorem onV_bd (w : Wd) : ∀ t, Ga01 w (onV w t)
  | 0 => ga0_bd w
  | t + 1 => gaN_bd (gaO_bd (onV_bd w t))
theorem ga_ot0 {d : Nat} {w : Wd} (hW : WOk w) : GaC w (d + 6) 74 1 (otV w 0) := ga_O hW (by decide) (onV_bd w 0) (ga_0 hW)
theorem ga_on1 {d : Nat} {w : Wd} (hW : WOk w) : GaC w (d + 7) 73 1 (onV w 1) := ga_N hW (by decide) (gaO_bd (onV_bd w 0)) (ga_ot0 hW)
theorem ga_ot1 {d : Nat} {w : Wd} (hW : WOk w) : GaC w (d + 8) 74 2 (otV w 1) := ga_O hW (by decide) (onV_bd w 1) (ga_on1 hW)
theorem ga_on2 {d : Nat} {w : Wd} (hW : WOk w) : GaC w (d + 9) 73 2 (onV w 2) := ga_N hW (by decide) (gaO_bd (onV_bd w 1)) (ga_ot1 hW)
