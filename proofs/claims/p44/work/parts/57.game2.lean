/-! PAIRS: game, the class's search -/
/-- what a search with a window tells of v -/
def AB (v lo hi r : Int) : Prop := (r < hi → v ≤ r) ∧ (lo < r → r ≤ v)
theorem ab_eq (v lo hi : Int) : AB v lo hi v := ⟨fun _ => Int.le_refl _, fun _ => Int.le_refl _⟩
theorem ab_mn {lo hi b r v g : Int} (h : AB v lo hi b) (k : AB g lo (mzMn hi b) r) : AB (mzMn v g) lo hi (mzMn b r) := by
  obtain ⟨h1, h2⟩ := h
  obtain ⟨k1, k2⟩ := k
  unfold AB mzMn at *
  constructor
  · intro a
    split <;> split at a <;> split at k1 <;> omega
  · intro a
    split <;> split at a <;> omega
theorem ab_mx {lo hi b r v g : Int} (h : AB v lo hi b) (k : AB g (mzMx lo b) hi r) : AB (mzMx v g) lo hi (mzMx b r) := by
  obtain ⟨h1, h2⟩ := h
  obtain ⟨k1, k2⟩ := k
  unfold AB mzMx at *
  constructor
  · intro a
    split <;> split at a <;> omega
  · intro a
    split <;> split at a <;> split at k2 <;> omega
/-- a call of bestPush (186) or bestHold (187), with any window, tells of f -/
def GaK (w : Wd) (D y : Nat) (t : Int) (f : Nat → Nat → Int) : Prop := ∀ (q : Int → mzM → Prop) (μ : mzM) (p h : Nat) (lo hi : Int), p < 2 ^ wN w → h < 4096 → CW μ 0 w → GM μ w → HC μ (wN w) (H0 w) → (∀ r μ', NF μ μ' → AB (f p h) lo hi r → q r μ') → mzCl D y [mzR 14, mzI t, mzI p, mzI h, mzI lo, mzI hi] μ (mzQi q)
theorem gk_0 {d : Nat} {w : Wd} (hW : WOk w) : GaK w (d + 4) 186 0 (ga0 w) := fun q μ p h lo hi hp hh C G HH hq =>
  g186_e _ _ _ _ _ _ ⟨fun z => absurd z (by decide), fun _ => k_standOf hW C G HH hh hp (fun m f => k_bitCount (Nat.lt_of_lt_of_le (stS_lt hW) (pow12 hW.1)) (hq _ m f (ab_eq _ _ _)))⟩
theorem gk_O {D : Nat} {t : Int} {w : Wd} {f : Nat → Nat → Int} (hW : WOk w) (ht : 1 ≤ t ∧ t ≤ 2) (hc : GaK w D 186 (t - 1) f) : GaK w (D + 1) 187 t (gaO w f) := by
  have hN := hW.1
  have et : mzW (t - 1) = t - 1 := wid (by omega) (by omega)
  intro q μ p h lo hi hp hh C G HH hq
  have p12 : p < 4096 := Nat.lt_of_lt_of_le hp (pow12 hN)
  have fl := Nat.lt_of_lt_of_le (fgS_lt w p h) (pow12 hN)
  have f31 : fgS w p h < 2147483648 := Nat.lt_trans fl (by decide)
  have h31 : h < 2147483648 := Nat.lt_trans hh (by decide)
  unfold gaO at hq
  refine g187_e _ _ _ _ _ _ (k_all C.1 hN ?_)
  rw [fg_m hW p12 hh]
  refine ⟨fun z => ?_, fun z => ?_⟩
  · have c : ¬ fgS w p h = 0 := fun c => z (by rw [c]; rfl)
    rw [if_neg c] at hq
    have L : ∀ (c k : Nat) (b : Int) (m : mzM), k + c = wN w → NF μ m → AB (mnF (fun j => f p (h ||| 2 ^ j)) (fgS w p h) k) lo hi b → mzWp (D + 1) 187 43 [mzR 14, mzI t, mzI p, mzI h, mzI lo, mzI hi, mzI (fgS w p h : Nat), mzI b, mzI k] [] m (mzQi q) := by
      intro c
      induction c with
      | zero =>
        intro k b m hk fr ab
        have : k = wN w := hk
        subst this
        have hm : m 26 0 = wN w := (fr.ef.cw hN C).1
        exact g187_43 _ _ _ _ _ _ _ _ _ ⟨fun _ => hq b m fr ab, fun z => absurd z (by rw [hm]; exact Int.lt_irrefl _)⟩
      | succ c ih =>
        intro k b m hk fr ab
        have hkn : k < wN w := by omega
        have hkc : k + 1 + c = wN w := by omega
        obtain ⟨k12, k32, k31, kb, nle, ew⟩ := pl_b hkn hN
        have Cm := fr.ef.cw hN C
        have hm : m 26 0 = wN w := Cm.1
        have nle2 : ¬ (m 26 0 ≤ (k : Int)) := by rw [hm]; exact nle
        have mono := mnF_mono (fun j => f p (h ||| 2 ^ j)) (fgS w p h) k (c + 1)
        rw [show k + (c + 1) = wN w from hk] at mono
        refine g187_43 _ _ _ _ _ _ _ _ _ ⟨fun z => absurd z nle2, fun _ => ⟨fun z => hq b m fr ⟨fun a => Int.le_trans mono (ab.1 a), fun a => absurd a (Int.not_lt.mpr z)⟩, fun _ => ⟨fun z => ?_, fun z => ?_⟩⟩⟩
        · rw [nBit0 f31 k32] at z
          rw [ew]
          exact ih (k + 1) b m hkc fr (by rw [mnF_n z]; exact ab)
        · rw [nBit1 f31 k32] at z
          have kp : 2 ^ k < 4096 := pw12 k12
          rw [et, nPow k31, nOr h31 (Nat.lt_trans kp (by decide)), ew]
          exact hc _ m p (h ||| 2 ^ k) lo (mzMn hi b) hp (Nat.or_lt_two_pow (n := 12) hh kp) Cm (fr.gm hN G) (fr.hc HH) (fun r m2 f2 a2 => ih (k + 1) _ m2 hkc (fr.tr f2) (by rw [mnF_s z]; exact ab_mn ab a2))
    exact L (wN w) 0 13 μ (Nat.zero_add _) NF.rf ⟨fun _ => Int.le_refl _, fun _ => Int.le_refl _⟩
  · have c : fgS w p h = 0 := Int.ofNat.inj z
    rw [if_pos c] at hq
    rw [et]
    exact hc q μ p h lo hi hp hh C G HH hq
theorem gk_N {D : Nat} {t : Int} {w : Wd} {f : Nat → Nat → Int} (hW : WOk w) (ht : 0 < t) (hc : GaK w D 187 t f) : GaK w (D + 1) 186 t (gaN w f) := by
  have hN := hW.1
  intro q μ p h lo hi hp hh C G HH hq
  have p12 : p < 4096 := Nat.lt_of_lt_of_le hp (pow12 hN)
  have p31 : p < 2147483648 := Nat.lt_trans p12 (by decide)
  have fl := Nat.lt_of_lt_of_le (fgS_lt w p h) (pow12 hN)
  have f31 : fgS w p h < 2147483648 := Nat.lt_trans fl (by decide)
  unfold gaN at hq
  refine g186_e _ _ _ _ _ _ ⟨fun _ => k_all C.1 hN ?_, fun z => absurd ht (Int.not_lt.mpr z)⟩
  rw [fg_m hW p12 hh]
  refine ⟨fun z => ?_, fun z => ?_⟩
  · have c : ¬ fgS w p h = 0 := fun c => z (by rw [c]; rfl)
    rw [if_neg c] at hq
    have L : ∀ (c k : Nat) (b : Int) (m : mzM), k + c = wN w → NF μ m → AB (mxF (fun j => f (p ||| 2 ^ j) h) (fgS w p h) k) lo hi b → mzWp (D + 1) 186 57 [mzR 14, mzI t, mzI p, mzI h, mzI lo, mzI hi, mzI (fgS w p h : Nat), mzI b, mzI k] [] m (mzQi q) := by
      intro c
      induction c with
      | zero =>
        intro k b m hk fr ab
        have : k = wN w := hk
        subst this
        have hm : m 26 0 = wN w := (fr.ef.cw hN C).1
        exact g186_57 _ _ _ _ _ _ _ _ _ ⟨fun _ => hq b m fr ab, fun z => absurd z (by rw [hm]; exact Int.lt_irrefl _)⟩
      | succ c ih =>
        intro k b m hk fr ab
        have hkn : k < wN w := by omega
        have hkc : k + 1 + c = wN w := by omega
        obtain ⟨k12, k32, k31, kb, nle, ew⟩ := pl_b hkn hN
        have Cm := fr.ef.cw hN C
        have hm : m 26 0 = wN w := Cm.1
        have nle2 : ¬ (m 26 0 ≤ (k : Int)) := by rw [hm]; exact nle
        have mono := mxF_mono (fun j => f (p ||| 2 ^ j) h) (fgS w p h) k (c + 1)
        rw [show k + (c + 1) = wN w from hk] at mono
        refine g186_57 _ _ _ _ _ _ _ _ _ ⟨fun z => absurd z nle2, fun _ => ⟨fun z => hq b m fr ⟨fun a => absurd a (Int.not_lt.mpr z), fun a => Int.le_trans (ab.2 a) mono⟩, fun _ => ⟨fun z => ?_, fun z => ?_⟩⟩⟩
        · rw [nBit0 f31 k32] at z
          rw [ew]
          exact ih (k + 1) b m hkc fr (by rw [mxF_n z]; exact ab)
        · rw [nBit1 f31 k32] at z
          have kp : 2 ^ k < 4096 := pw12 k12
          rw [nPow k31, nOr p31 (Nat.lt_trans kp (by decide)), ew]
          exact hc _ m (p ||| 2 ^ k) h (mzMx lo b) hi (pw_or hp hkn) hh Cm (fr.gm hN G) (fr.hc HH) (fun r m2 f2 a2 => ih (k + 1) _ m2 hkc (fr.tr f2) (by rw [mxF_s z]; exact ab_mx ab a2))
    exact L (wN w) 0 (-1) μ (Nat.zero_add _) NF.rf ⟨fun _ => Int.le_refl _, fun _ => Int.le_refl _⟩
  · have c : fgS w p h = 0 := Int.ofNat.inj z
    rw [if_pos c] at hq
    exact hc q μ p h lo hi hp hh C G HH hq
theorem gk_ot0 {d : Nat} {w : Wd} (hW : WOk w) : GaK w (d + 5) 187 1 (otV w 0) := gk_O hW (by decide) (gk_0 hW)
theorem gk_on1 {d : Nat} {w : Wd} (hW : WOk w) : GaK w (d + 6) 186 1 (onV w 1) := gk_N hW (by decide) (gk_ot0 hW)
theorem gk_ot1 {d : Nat} {w : Wd} (hW : WOk w) : GaK w (d + 7) 187 2 (otV w 1) := gk_O hW (by decide) (gk_on1 hW)
-- the whole game, with t + 1 turns
/-- the best first place of the first k: what comes of it, which -/
def gmF (g : Nat → Int) (free : Nat) : Nat → Int × Int
  | 0 => (-1, -1)
  | k + 1 => if free.testBit k = true ∧ (gmF g free k).1 < g k then (g k, (k : Int)) else gmF g free k
theorem gmF_mx (g : Nat → Int) (free : Nat) : ∀ k, (gmF g free k).1 = mxF g free k := by
  intro k
  induction k with
  | zero => rfl
  | succ k ih =>
    rw [gmF, mxF, ← ih]
    split <;> rfl
/-- the first of the first places whose worth is v -/
def gmP (g : Nat → Int) (free : Nat) (v : Int) : Nat → Nat → Int
  | 0, _ => -1
  | c + 1, k => if free.testBit k = true ∧ g k = v then (k : Int) else gmP g free v c (k + 1)
theorem gmP_skip {g : Nat → Int} {free : Nat} {v : Int} : ∀ (c k : Nat), (∀ j, k ≤ j → j < k + c → free.testBit j = true → g j ≠ v) → gmP g free v c k = -1 := by
  intro c
  induction c with
  | zero => intro k _; rfl
  | succ c ih =>
    intro k h
    rw [gmP, if_neg (fun a => h k (Nat.le_refl _) (by omega) a.1 a.2)]
    exact ih (k + 1) (fun j h1 h2 => h j (by omega) (by omega))
theorem gmP_eq {g : Nat → Int} {free : Nat} : ∀ (k c : Nat), (∀ j, j < k + c → free.testBit j = true → 0 ≤ g j) → mxF g free (k + c) = mxF g free k → gmP g free (mxF g free k) (k + c) 0 = (gmF g free k).2 := by
  intro k
  induction k with
  | zero =>
    intro c h _
    rw [Nat.zero_add]
    exact gmP_skip c 0 (fun j _ h2 hb e => by have := h j (by omega) hb; rw [e] at this; exact absurd (show (0 : Int) ≤ -1 from this) (by decide))
  | succ k ih =>
    intro c h hm
    by_cases cc : free.testBit k = true ∧ (gmF g free k).1 < g k
    · have e1 : mxF g free (k + 1) = g k := by rw [mxF, if_pos (by rw [← gmF_mx]; exact cc)]
      rw [gmF, if_pos cc, e1]
      -- no place ahead of k has this worth
      have ahead : ∀ (a i : Nat), i + a = k → gmP g free (g k) (a + 1 + c) i = (k : Int) := by
        intro a
        induction a with
        | zero =>
          intro i hi
          have : i = k := hi
          subst this
          rw [show 0 + 1 + c = c + 1 by omega, gmP, if_pos ⟨cc.1, rfl⟩]
        | succ a iha =>
          intro i hi
          have lt : ¬ (free.testBit i = true ∧ g i = g k) := fun b => by
            have h1 := mxF_ge (g := g) (n := k) (show i < k by omega) b.1
            have h2 := cc.2
            rw [gmF_mx] at h2
            omega
          rw [show a + 1 + 1 + c = (a + 1 + c) + 1 by omega, gmP, if_neg lt]
          exact iha (i + 1) (by omega)
      have := ahead k 0 (Nat.zero_add _)
      exact this
    · have e1 : mxF g free (k + 1) = mxF g free k := by rw [mxF, if_neg (by rw [← gmF_mx]; exact cc)]
      rw [gmF, if_neg cc, e1]
      have := ih (c + 1) (fun j hj => h j (by omega)) (by rw [show k + (c + 1) = k + 1 + c by omega, hm, e1])
      rw [show k + (c + 1) = k + 1 + c by omega] at this
      exact this
def gmV (w : Wd) (t : Nat) (p : Nat) : Int := otV w t (2 ^ p) (hw w)
def gmR (w : Wd) : Nat := nd (2 ^ wN w - 1) (hw w)
theorem gmR_fg (w : Wd) : fgS w 0 (hw w) = gmR w := by
  unfold fgS gmR
  congr 1
  refine Nat.eq_of_testBit_eq (fun i => ?_)
  rw [nd_bit]
  simp
theorem gmR_lt (w : Wd) : gmR w < 2 ^ wN w := nd_lt (Nat.sub_lt (Nat.pow_pos (by decide)) (by decide))
/-- all that comes of it, whoever begins -/
theorem onV_0 {w : Wd} (hW : WOk w) (h0 : gmR w = 0) : ∀ t, onV w t 0 (hw w) = 0 := by
  intro t
  induction t with
  | zero =>
    show ((cnt (stS w (H0 w) (hw w) 0) 12 : Nat) : Int) = 0
    have e : stS w (H0 w) (hw w) 0 = 0 := by
      refine Nat.eq_of_testBit_eq (fun i => ?_)
      rw [Nat.zero_testBit]
      by_cases c : i < wN w
      · refine hd_no c ?_ 24
        have : (gmR w).testBit i = false := by rw [h0]; exact Nat.zero_testBit i
        unfold gmR at this
        rw [nd_bit, Nat.testBit_two_pow_sub_one, decide_eq_true c, Bool.true_and] at this
        cases hb : (hw w).testBit i with
        | true => rfl
        | false => rw [hb] at this; exact absurd this (by decide)
      · exact bit_lt (stS_lt hW) (Nat.le_of_not_lt c)
    rw [e]
    decide
  | succ t ih =>
    show gaN w (gaO w (onV w t)) 0 (hw w) = 0
    unfold gaN
    rw [gmR_fg, if_pos h0]
    unfold gaO
    rw [gmR_fg, if_pos h0]
    exact ih
theorem onV_s {w : Wd} {t : Nat} (h0 : gmR w ≠ 0) : onV w (t + 1) 0 (hw w) = mxF (gmV w t) (gmR w) (wN w) := by
  show gaN w (gaO w (onV w t)) 0 (hw w) = _
  unfold gaN
  rw [gmR_fg, if_neg h0]
  congr 1
  funext j
  show gaO w (onV w t) (0 ||| 2 ^ j) (hw w) = _
  rw [Nat.zero_or]
  rfl
/-- the answer: by how many turns less one, and what is asked -/
def gmA (w : Wd) (t : Nat) (k : Int) : Int := if k = 0 then (if (gmF (gmV w t) (gmR w) (wN w)).1 < 0 then 0 else (gmF (gmV w t) (gmR w) (wN w)).1) else (gmF (gmV w t) (gmR w) (wN w)).2
theorem gmV_bd (w : Wd) (t p : Nat) : 0 ≤ gmV w t p ∧ gmV w t p ≤ 12 := gaO_bd (onV_bd w t) _ _
theorem gm_all {w : Wd} (hW : WOk w) (t : Nat) : onV w (t + 1) 0 (hw w) = gmA w t 0 := by
  unfold gmA
  rw [if_pos rfl, gmF_mx]
  by_cases c : gmR w = 0
  · rw [onV_0 hW c, c]
    have e : ∀ k, mxF (gmV w t) 0 k = -1 := by
      intro k
      induction k with
      | zero => rfl
      | succ k ih => rw [mxF_n (Nat.zero_testBit k)]; exact ih
    rw [e, if_pos (by decide)]
  · rw [onV_s c]
    obtain ⟨k, hk, hb⟩ := bit_some c (gmR_lt w)
    have h1 := mxF_ge (g := gmV w t) hk hb
    have h2 := (gmV_bd w t k).1
    rw [if_neg (by omega)]
theorem gm_place {w : Wd} (hW : WOk w) (t : Nat) {k : Int} (hk : k ≠ 0) : gmP (gmV w t) (gmR w) (onV w (t + 1) 0 (hw w)) (wN w) 0 = gmA w t k := by
  unfold gmA
  rw [if_neg hk]
  by_cases c : gmR w = 0
  · rw [c]
    have e : ∀ k, gmF (gmV w t) 0 k = (-1, -1) := by
      intro k
      induction k with
      | zero => rfl
      | succ k ih => rw [gmF, if_neg (fun a => by rw [Nat.zero_testBit] at a; exact absurd a.1 (by decide))]; exact ih
    rw [e]
    exact gmP_skip _ _ (fun j _ _ hb => by rw [Nat.zero_testBit] at hb; exact absurd hb (by decide))
  · rw [onV_s c]
    have := gmP_eq (g := gmV w t) (free := gmR w) (wN w) 0 (fun j _ _ => (gmV_bd w t j).1) rfl
    exact this
