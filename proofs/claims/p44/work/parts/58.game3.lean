/-! PAIRS: game, the calls -/
def gaS (w : Wd) (n k : Int) : Int × Wd := (if (1 ≤ n ∧ n ≤ 2) ∧ 0 ≤ k ∧ k ≤ 1 then gmA w (n.toNat - 1) k else -1000001, w)
theorem c_game1 {D t : Nat} {q : Int → mzM → Prop} {k : Int} {m : mzM} {w : Wd} {μ : mzM} (hW : WOk w) (I : MW μ 1 w) (hk : k ≠ 0) (hc : GaC w D 74 ((t + 1 : Nat) : Int) (otV w t)) (hq : ∀ m, BF μ m → q (gmA w t k) m) (f : BF μ m) : mzWp (D + 1) 75 53 [mzR 0, mzI ((t + 1 : Nat) : Int), none, mzI (hw w : Nat), mzI (onV w (t + 1) 0 (hw w)), mzI 0] [] m (mzQi q) := by
  have hN := hW.1
  have h31 : hw w < 2147483648 := Nat.lt_trans (hw_lt hW) (by decide)
  have L : ∀ (c p : Nat) (m : mzM), p + c = wN w → BF μ m → (∀ m, BF μ m → q (gmP (gmV w t) (gmR w) (onV w (t + 1) 0 (hw w)) c p) m) → mzWp (D + 1) 75 53 [mzR 0, mzI ((t + 1 : Nat) : Int), none, mzI (hw w : Nat), mzI (onV w (t + 1) 0 (hw w)), mzI p] [] m (mzQi q) := by
    intro c
    induction c with
    | zero =>
      intro p m hp f hq
      have : p = wN w := hp
      subst this
      have hm : m 1 0 = wN w := (f.mw I).1
      exact g75_53 _ _ _ _ _ ⟨by decide, fun _ => hq m f, fun z => absurd z (by rw [hm]; exact Int.lt_irrefl _)⟩
    | succ c ih =>
      intro p m hp f hq
      have hpn : p < wN w := by omega
      have hpc : p + 1 + c = wN w := by omega
      obtain ⟨p12, p32, p31, pb, nle, ew⟩ := pl_b hpn hN
      have Im := f.mw I
      have hm : m 1 0 = wN w := Im.1
      have nle2 : ¬ (m 1 0 ≤ (p : Int)) := by rw [hm]; exact nle
      have fb : (gmR w).testBit p = !(hw w).testBit p := by
        unfold gmR
        rw [nd_bit, Nat.testBit_two_pow_sub_one, decide_eq_true hpn, Bool.true_and]
      rw [gmP] at hq
      refine g75_53 _ _ _ _ _ ⟨by decide, fun z => absurd z nle2, fun _ => c_has h31 p32 (fun b => ⟨fun _ => ?_, fun z => absurd z (by decide)⟩) (fun b => ⟨fun z => absurd rfl z, fun _ => ?_⟩)⟩
      · rw [ew]
        refine ih (p + 1) m hpc f (fun m2 f2 => ?_)
        have := hq m2 f2
        rw [if_neg (fun a => by rw [fb, b] at a; exact absurd a.1 (by decide))] at this
        exact this
      · rw [nPow p31, ew]
        refine hc _ m (2 ^ p) (hw w) (Nat.pow_lt_pow_right (by decide) hpn) (hw_lt hW) Im (fun m2 f2 => ⟨fun z => ?_, fun z => ?_⟩)
        · refine ih (p + 1) m2 hpc (f.tr f2) (fun m3 f3 => ?_)
          have := hq m3 f3
          rw [if_neg (fun a => z a.2)] at this
          exact this
        · have := hq m2 (f.tr f2)
          rw [if_pos ⟨by rw [fb, b]; rfl, z⟩] at this
          exact this
  refine L (wN w) 0 m (Nat.zero_add _) f (fun m2 f2 => ?_)
  rw [gm_place hW t hk]
  exact hq m2 f2
theorem c_game {d : Nat} {q : Int → mzM → Prop} {n k : Int} {μ : mzM} {w : Wd} (hW : WOk w) (I : MI μ w) (h : ∀ μ', FM μ μ' → MI μ' (gaS w n k).2 → q (gaS w n k).1 μ') : mzCl (d + 10) 75 [mzR 0, mzI n, mzI k] μ (mzQi q) := by
  have p0 : 0 < 2 ^ wN w := Nat.pow_pos (by decide)
  unfold gaS at h
  refine g75_e _ _ _ (c_in (fun a1 a2 => ⟨fun z => absurd z (by decide), fun _ => c_in (fun b1 b2 => ⟨fun _ => c_heldNow hW I.1 ?_, fun z => absurd z (by decide)⟩) (fun b => ⟨fun z => absurd rfl z, fun _ => c_fd (by decide) I ?_⟩)⟩) (fun a => ⟨fun _ => c_fd (by decide) I ?_, fun z => absurd rfl z⟩))
  · rw [if_pos ⟨⟨a1, a2⟩, b1, b2⟩] at h
    have two : n = 1 ∨ n = 2 := by omega
    rcases two with e | e
    · subst e
      have h : ∀ μ', FM μ μ' → MI μ' w → q (gmA w 0 k) μ' := h
      refine ga_on1 (d := d + 2) hW _ μ 0 (hw w) p0 (hw_lt hW) I.1 (fun m f => ⟨fun z => c_game1 (t := 0) hW I.1 z (ga_ot0 (d := d + 3) hW) (fun m2 f2 => h m2 f2.fm (f2.mi I)) f, fun z => ?_⟩)
      subst z
      rw [gm_all hW 0]
      exact h m f.fm (f.mi I)
    · subst e
      have h : ∀ μ', FM μ μ' → MI μ' w → q (gmA w 1 k) μ' := h
      refine ga_on2 (d := d) hW _ μ 0 (hw w) p0 (hw_lt hW) I.1 (fun m f => ⟨fun z => c_game1 (t := 1) hW I.1 z (ga_ot1 (d := d + 1) hW) (fun m2 f2 => h m2 f2.fm (f2.mi I)) f, fun z => ?_⟩)
      subst z
      rw [gm_all hW 1]
      exact h m f.fm (f.mi I)
  · rw [if_neg (by omega)] at h; exact h
  · rw [if_neg (by omega)] at h; exact h
/-- a search that beats the best tells the truth -/
theorem ab_top {v b r : Int} (hv : v ≤ 12) (h : AB v b 12 r) : (r ≤ b → ¬ b < v ∨ False) ∧ (b < r → b < v ∧ v = r) := by
  obtain ⟨h1, h2⟩ := h
  constructor
  · intro a
    refine Or.inl (fun c => ?_)
    by_cases c2 : r < 12
    · have := h1 c2; omega
    · omega
  · intro a
    have := h2 a
    by_cases c2 : r < 12
    · have := h1 c2; omega
    · omega
theorem k_game1 {D t : Nat} {q : Int → mzM → Prop} {n k : Int} {m : mzM} {w : Wd} {μ : mzM} (hW : WOk w) (C : CW μ 0 w) (G : GM μ w) (HH : HC μ (wN w) (H0 w)) (hk : 0 ≤ k ∧ k ≤ 1) (hc : GaK w D 187 n (otV w t)) (hq : ∀ m, NF μ m → q (gmA w t k) m) (f : NF μ m) : mzWp (D + 1) 160 60 [mzR 14, mzI n, mzI k, mzI (gmR w : Nat), mzI (-1), mzI (-1), mzI 0, none] [] m (mzQi q) := by
  have hN := hW.1
  have rl : gmR w < 2147483648 := Nat.lt_of_lt_of_le (gmR_lt w) (Nat.le_trans (pow12 hN) (by decide))
  have L : ∀ (c p : Nat) (m : mzM), p + c = wN w → NF μ m → mzWp (D + 1) 160 60 [mzR 14, mzI n, mzI k, mzI (gmR w : Nat), mzI (gmF (gmV w t) (gmR w) p).1, mzI (gmF (gmV w t) (gmR w) p).2, mzI p, none] [] m (mzQi q) := by
    intro c
    induction c with
    | zero =>
      intro p m hp f
      have : p = wN w := hp
      subst this
      have hm : m 26 0 = wN w := (f.ef.cw hN C).1
      refine g160_60 _ _ _ _ _ _ _ ⟨fun _ => ⟨fun z => ?_, fun z => ?_⟩, fun z => absurd z (by rw [hm]; exact Int.lt_irrefl _)⟩
      · have k0 : k = 0 := by omega
        have := hq m f
        unfold gmA at this
        rw [if_pos k0] at this
        exact this
      · have := hq m f
        unfold gmA at this
        rw [if_neg (by rw [z]; decide)] at this
        exact this
    | succ c ih =>
      intro p m hp f
      have hpn : p < wN w := by omega
      have hpc : p + 1 + c = wN w := by omega
      obtain ⟨p12, p32, p31, pb, nle, ew⟩ := pl_b hpn hN
      have Cm := f.ef.cw hN C
      have hm : m 26 0 = wN w := Cm.1
      have nle2 : ¬ (m 26 0 ≤ (p : Int)) := by rw [hm]; exact nle
      have es : gmF (gmV w t) (gmR w) (p + 1) = if (gmR w).testBit p = true ∧ (gmF (gmV w t) (gmR w) p).1 < gmV w t p then (gmV w t p, (p : Int)) else gmF (gmV w t) (gmR w) p := rfl
      refine g160_60 _ _ _ _ _ _ _ ⟨fun z => absurd z nle2, fun _ => ⟨fun z => ?_, fun z => ?_⟩⟩
      · rw [nBit0 rl p32] at z
        have go := ih (p + 1) m hpc f
        rw [es, if_neg (fun a => by rw [z] at a; exact absurd a.1 (by decide))] at go
        rw [ew]
        exact go
      · rw [nBit1 rl p32] at z
        rw [nPow p31, k_held Cm, ew]
        refine hc _ m (2 ^ p) (hw w) _ 12 (Nat.pow_lt_pow_right (by decide) hpn) (hw_lt hW) Cm (f.gm hN G) (f.hc HH) (fun r m2 f2 ab => ?_)
        have at1 := ab_top (gmV_bd w t p).2 ab
        have go := ih (p + 1) m2 hpc (f.tr f2)
        rw [es] at go
        refine ⟨fun y => ?_, fun y => ?_⟩
        · rw [if_neg (fun a => (at1.1 y).elim (fun b => b a.2) id)] at go
          exact go
        · obtain ⟨y1, y2⟩ := at1.2 y
          have y2 : gmV w t p = r := y2
          rw [if_pos ⟨z, y1⟩, y2] at go
          exact go
  exact L (wN w) 0 m (Nat.zero_add _) f
theorem k_game {d : Nat} {q : Int → mzM → Prop} {n k : Int} {μ : mzM} {w : Wd} (hW : WOk w) (C : CW μ 0 w) (h : ∀ μ', FC μ μ' → CW μ' 0 (gaS w n k).2 → q (gaS w n k).1 μ') : mzCl (d + 10) 160 [mzR 14, mzI n, mzI k] μ (mzQi q) := by
  have hN := hW.1
  unfold gaS at h
  have fd : ¬ ((1 ≤ n ∧ n ≤ 2) ∧ 0 ≤ k ∧ k ≤ 1) → mzCl (d + 9) 173 [mzR 14, mzI (-1000001)] μ (mzQi q) := fun c => k_fd (by decide) hN C (by rw [if_neg c] at h; exact h)
  refine g160_e _ _ _ ⟨fun z => fd (by omega), fun a1 => ⟨fun z => fd (by omega), fun a2 => ⟨fun z => fd (by omega), fun b1 => ⟨fun b2 => k_survey hW C (fun m1 f1 G1 H1 => k_all (f1.cw hN C).1 hN ?_), fun z => fd (by omega)⟩⟩⟩⟩
  rw [if_pos ⟨⟨a1, a2⟩, b1, b2⟩] at h
  have al : 2 ^ wN w - 1 < 2147483648 := Nat.lt_trans (all_lt hN) (by decide)
  have C1 := f1.cw hN C
  rw [k_held C1, nNot al]
  have two : n = 1 ∨ n = 2 := by omega
  rcases two with e | e
  · subst e
    have h : ∀ μ', FC μ μ' → CW μ' 0 w → q (gmA w 0 k) μ' := h
    exact k_game1 (t := 0) hW C1 G1 H1 ⟨b1, b2⟩ (gk_ot0 (d := d + 4) hW) (fun m f => h m (f1.tr f.ef).fc (f.ef.cw hN C1)) NF.rf
  · subst e
    have h : ∀ μ', FC μ μ' → CW μ' 0 w → q (gmA w 1 k) μ' := h
    exact k_game1 (t := 1) hW C1 G1 H1 ⟨b1, b2⟩ (gk_ot1 (d := d + 2) hW) (fun m f => h m (f1.tr f.ef).fc (f.ef.cw hN C1)) NF.rf
theorem p_game {d : Nat} {μ : mzM} {w : Wd} {q : Int → Int → mzM → Prop} {n k : Int} (R : RW μ w) (h : ∀ a μ' w', RW μ' w' → q a a μ') : mzCl (d + 10) 160 [mzR 14, mzI n, mzI k] μ (mzQi fun a m1 => mzCl (d + 10) 75 [mzR 0, mzI n, mzI k] m1 (mzQi fun c m2 => q a c m2)) :=
  pair (gaS w n k) R R.1 (fun q' z => k_game R.1 R.2.2.1 z) (fun m1 q' _ I z => c_game R.1 I z) h
