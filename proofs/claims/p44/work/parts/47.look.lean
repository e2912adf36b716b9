/-! PAIRS: must, look -/
def muF (w : Wd) (p : Nat) : Bool := decide (gtS (wP w) p (2 ^ wN w - 1) (wN w) < H0 w p)
def muS (w : Wd) : Nat := mk (wN w) (muF w)
theorem mk_s (n : Nat) (f : Nat → Bool) : mk (n + 1) f = mk n f ||| if f n = true then 2 ^ n else 0 := rfl
theorem pw12 {i : Nat} (h : i < 12) : 2 ^ i < 4096 := by have := Nat.pow_lt_pow_right (a := 2) (by omega) h; omega
theorem mk_l12 {n : Nat} (f : Nat → Bool) (h : n ≤ 12) : mk n f < 4096 := Nat.lt_of_lt_of_le (mk_lt _ _) (pow12 h)
theorem all_lt {n : Nat} (h : n ≤ 12) : 2 ^ n - 1 < 4096 := by have := pow12 h; omega
theorem c_must {d : Nat} {q : Int → mzM → Prop} {μ : mzM} {w : Wd} (hW : WOk w) (I : MI μ w) (h : q (muS w : Nat) μ) : mzCl (d + 2) 60 [mzR 0] μ (mzQi q) := by
  have hN := hW.1
  have L : ∀ (c i : Nat), i + c = wN w → mzWp (d + 2) 60 4 [mzR 0, mzI (mk i (muF w) : Nat), mzI i] [] μ (mzQi q) := by
    intro c
    induction c with
    | zero =>
      intro i hi
      have : i = wN w := by omega
      subst this
      have := I.1.1
      exact g60_4 _ _ _ ⟨by omega, fun _ => h, fun z => by omega⟩
    | succ c ih =>
      intro i hi
      have hin : i < wN w := by omega
      have hm := I.1.1
      have ml := mk_l12 (muF w) (show i ≤ 12 by omega)
      have go := ih (i + 1) (by omega)
      rw [mk_s] at go
      refine g60_4 _ _ _ ⟨by omega, fun z => by omega, fun _ => c_every I.1.1 hN (c_gets hW I.1 hin (all_lt hN) (c_height (by omega) (I.1.T hin (by omega)) (I.1.T hin (by omega)) (I.1.T hin (by omega)) (T1_ok hW hin) (T8_ok hW hin) ?_))⟩
      rw [w1 (by omega)]
      refine ⟨fun z => ?_, fun z => ?_⟩
      · have e : muF w i = false := decide_eq_false (Int.not_lt.mpr z)
        rw [e, if_neg (by decide)] at go
        have := nOr (a := mk i (muF w)) (b := 0) (by omega) (by omega)
        rw [show ((0 : Nat) : Int) = 0 from rfl] at this
        rw [this]
        exact go
      · have e : muF w i = true := decide_eq_true z
        rw [e, if_pos rfl] at go
        have := pw12 (show i < 12 by omega)
        rw [nPow (by omega), nOr (by omega) (by omega)]
        exact go
  exact g60_e _ (L (wN w) 0 (by omega))
theorem k_mustBe {d : Nat} {q : Int → mzM → Prop} {μ : mzM} {w : Wd} (hW : WOk w) (C : CW μ 0 w) (G : GM μ w) (HH : HC μ (wN w) (H0 w)) (h : q (muS w : Nat) μ) : mzCl (d + 2) 105 [mzR 16] μ (mzQi q) := by
  have hN := hW.1
  have L : ∀ (c i : Nat), i + c = wN w → mzWp (d + 2) 105 4 [mzR 16, mzI (mk i (muF w) : Nat), mzI i] [] μ (mzQi q) := by
    intro c
    induction c with
    | zero =>
      intro i hi
      have : i = wN w := by omega
      subst this
      have : μ 26 0 = wN w := C.1
      exact g105_4 _ _ _ ⟨fun _ => h, fun z => by omega⟩
    | succ c ih =>
      intro i hi
      have hin : i < wN w := by omega
      have hm : μ 26 0 = wN w := C.1
      have ml := mk_l12 (muF w) (show i ≤ 12 by omega)
      have go := ih (i + 1) (by omega)
      rw [mk_s] at go
      refine g105_4 _ _ _ ⟨fun z => by omega, fun _ => k_all C.1 hN (k_gets hW G hin (all_lt hN) ⟨by omega, ?_⟩)⟩
      rw [w1 (by omega), Int.toNat_natCast, HH i hin]
      refine ⟨fun z => ?_, fun z => ?_⟩
      · have e : muF w i = false := decide_eq_false (by omega)
        rw [e, if_neg (by decide), Nat.or_zero] at go
        exact go
      · have e : muF w i = true := decide_eq_true z
        rw [e, if_pos rfl] at go
        have := pw12 (show i < 12 by omega)
        rw [nPow (by omega), nOr (by omega) (by omega)]
        exact go
  exact g105_e _ (L (wN w) 0 (by omega))
theorem p_must {d : Nat} {μ : mzM} {w : Wd} {q : Int → Int → mzM → Prop} (R : RW μ w) (h : ∀ a μ' w', RW μ' w' → q a a μ') : mzCl (d + 5) 151 [mzR 14] μ (mzQi fun a m1 => mzCl (d + 5) 60 [mzR 0] m1 (mzQi fun c m2 => q a c m2)) :=
  pair ((muS w : Nat), w) R R.1 (fun q' z => g151_e _ (k_survey R.1 R.2.2.1 (fun m1 f1 G1 H1 => k_mustBe R.1 (f1.cw R.1.1 R.2.2.1) G1 H1 (z m1 f1.fc (f1.cw R.1.1 R.2.2.1))))) (fun m1 q' _ I z => c_must R.1 I (z m1 FM.rf I)) h
theorem cnt12_le (a : Nat) : cnt a 12 ≤ 12 := cnt_le a 12
/-- the place whose stand has most, of the first k -/
def loF (w : Wd) : Nat → Int × Int
  | 0 => (-1, 0)
  | k + 1 => if (loF w k).1 < 0 ∨ (loF w k).2 < (cnt (saS w (2 ^ k)) 12 : Nat) then ((k : Int), ((cnt (saS w (2 ^ k)) 12 : Nat) : Int)) else loF w k
theorem loF_bd (w : Wd) : ∀ k, (k = 0 ∧ (loF w k).1 = -1) ∨ (0 < k ∧ 0 ≤ (loF w k).1 ∧ 0 ≤ (loF w k).2) := by
  intro k
  induction k with
  | zero => exact Or.inl ⟨rfl, rfl⟩
  | succ k ih =>
    refine Or.inr ⟨by omega, ?_⟩
    rw [loF]
    split
    · exact ⟨Int.natCast_nonneg _, Int.natCast_nonneg _⟩
    · rename_i c
      rcases ih with h1 | h1
      · exact absurd (Or.inl (by omega)) c
      · exact h1.2
def lokS (w : Wd) : Int × Wd := (if wN w = 0 then -1000004 else (loF w (wN w)).1, w)
theorem c_look {d : Nat} {q : Int → mzM → Prop} {μ : mzM} {w : Wd} (hW : WOk w) (I : MI μ w) (h : ∀ μ', FM μ μ' → MI μ' (lokS w).2 → q (lokS w).1 μ') : mzCl (d + 5) 69 [mzR 0] μ (mzQi q) := by
  have hN := hW.1
  unfold lokS at h
  have L : ∀ (c i : Nat) (m : mzM), i + c = wN w → BF μ m → mzWp (d + 5) 69 6 [mzR 0, mzI (loF w i).1, mzI (loF w i).2, mzI i, none] [] m (mzQi q) := by
    intro c
    induction c with
    | zero =>
      intro i m hi f
      have : i = wN w := by omega
      subst this
      have Im := f.mi I
      have hm := Im.1.1
      refine g69_6 _ _ _ _ ⟨by omega, fun _ => ⟨fun z => ?_, fun z => ?_⟩, fun z => by omega⟩
      · rw [if_neg (by have := loF_bd w (wN w); omega)] at h
        exact h m f.fm Im
      · refine c_fd (by omega) Im (fun m2 f2 i2 => ?_)
        rw [if_pos (by have := loF_bd w (wN w); omega)] at h
        exact h m2 (f.fm.tr f2) i2
    | succ c ih =>
      intro i m hi f
      have hin : i < wN w := by omega
      have Im := f.mi I
      have hm := Im.1.1
      have hp : 2 ^ i < 2 ^ wN w := Nat.pow_lt_pow_right (by omega) hin
      refine g69_6 _ _ _ _ ⟨by omega, fun z => by omega, fun _ => c_heldNow hW Im.1 ?_⟩
      rw [nPow (by omega)]
      refine c_standOf hW Im.1 (hw_lt hW) hp (fun m2 f2 => c_many (a := saS w (2 ^ i)) (by have := saS_lt hW (2 ^ i); omega) ?_)
      have go := ih (i + 1) m2 (by omega) (f.tr f2)
      rw [loF] at go
      rw [w1 (by omega)]
      refine ⟨fun z => ?_, fun z => ⟨fun z2 => ?_, fun z2 => ?_⟩⟩
      · rw [if_pos (Or.inl z)] at go; exact go
      · rw [if_pos (Or.inr z2)] at go; exact go
      · rw [if_neg (by omega)] at go; exact go
  exact g69_e _ (L (wN w) 0 μ (by omega) BF.rf)
theorem k_look {d : Nat} {q : Int → mzM → Prop} {μ : mzM} {w : Wd} (hW : WOk w) (C : CW μ 0 w) (h : ∀ μ', FC μ μ' → CW μ' 0 (lokS w).2 → q (lokS w).1 μ') : mzCl (d + 5) 155 [mzR 14] μ (mzQi q) := by
  have hN := hW.1
  unfold lokS at h
  have hm0 : μ 26 0 = wN w := C.1
  refine g155_e _ ⟨fun z => k_survey hW C (fun m1 f1 G1 H1 => ?_), fun z => k_fd (by omega) hN C ?_⟩
  · rw [if_neg (by omega)] at h
    have C1 := f1.cw hN C
    have L : ∀ (c i : Nat) (x1 x2 : Int) (m : mzM), i + c = wN w → NF m1 m → ((i = 0 ∧ x1 = 0 ∧ x2 = -1) ∨ (0 < i ∧ x1 = (loF w i).1 ∧ x2 = (loF w i).2)) → mzWp (d + 5) 155 30 [mzR 14, mzI x1, mzI x2, mzI i, none] [] m (mzQi q) := by
      intro c
      induction c with
      | zero =>
        intro i x1 x2 m hi f hx
        have : i = wN w := by omega
        subst this
        have Cm := f.ef.cw hN C1
        have hm : m 26 0 = wN w := Cm.1
        refine g155_30 _ _ _ _ ⟨fun _ => ?_, fun z => by omega⟩
        rcases hx with hx | hx
        · omega
        · rw [hx.2.1]; exact h m (f1.tr f.ef).fc Cm
      | succ c ih =>
        intro i x1 x2 m hi f hx
        have hin : i < wN w := by omega
        have Cm := f.ef.cw hN C1
        have hm : m 26 0 = wN w := Cm.1
        have hp : 2 ^ i < 2 ^ wN w := Nat.pow_lt_pow_right (by omega) hin
        refine g155_30 _ _ _ _ ⟨fun z => by omega, fun _ => ?_⟩
        rw [nPow (by omega), k_held Cm]
        refine k_standOf hW Cm (f.gm hN G1) (f.hc H1) (hw_lt hW) hp (fun m2 f2 => k_bitCount (a := saS w (2 ^ i)) (saS_lt hW _) ?_)
        rw [w1 (by omega)]
        have bd := loF_bd w i
        have e : loF w (i + 1) = if (loF w i).1 < 0 ∨ (loF w i).2 < (cnt (saS w (2 ^ i)) 12 : Nat) then ((i : Int), ((cnt (saS w (2 ^ i)) 12 : Nat) : Int)) else loF w i := rfl
        refine ⟨fun z => ih (i + 1) _ _ m2 (by omega) (f.tr f2) (Or.inr ⟨by omega, ?_⟩), fun z => ih (i + 1) _ _ m2 (by omega) (f.tr f2) (Or.inr ⟨by omega, ?_⟩)⟩
        · rcases hx with hx | hx
          · exfalso; omega
          · rw [e, if_neg (by omega)]; exact hx.2
        · rcases hx with hx | hx
          · rw [e, if_pos (by omega)]; exact ⟨rfl, rfl⟩
          · rw [e, if_pos (by omega)]; exact ⟨rfl, rfl⟩
    exact L (wN w) 0 0 (-1) m1 (by omega) NF.rf (Or.inl ⟨rfl, rfl, rfl⟩)
  · rw [if_pos (by omega)] at h; exact h
theorem p_look {d : Nat} {μ : mzM} {w : Wd} {q : Int → Int → mzM → Prop} (R : RW μ w) (h : ∀ a μ' w', RW μ' w' → q a a μ') : mzCl (d + 5) 155 [mzR 14] μ (mzQi fun a m1 => mzCl (d + 5) 69 [mzR 0] m1 (mzQi fun c m2 => q a c m2)) :=
  pair (lokS w) R R.1 (fun q' z => k_look R.1 R.2.2.1 z) (fun m1 q' _ I z => c_look R.1 I z) h
