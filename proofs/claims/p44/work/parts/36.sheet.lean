/-! PAIRS: sheet, write, copy -/
def shF (s b n : Int) : Int := if (0 ≤ s ∧ s < 4) ∧ (b = 0 ∨ b = 8 ∨ b = 16 ∨ b = 32) then (if n < 0 then -1000007 else if 40 < n then -1000001 else 0) else -1000001
theorem shF_r (s b n : Int) (h : shF s b n ≠ 0) : -1000007 ≤ shF s b n ∧ shF s b n ≤ -1000001 := by
  unfold shF at h ⊢
  split
  · rename_i c
    rw [if_pos c] at h
    split
    · omega
    · rename_i c2
      rw [if_neg c2] at h
      split
      · omega
      · rename_i c3
        rw [if_neg c3] at h
        exact absurd rfl h
  · omega
theorem k_sheet {d : Nat} {q : Int → mzM → Prop} {s b n : Int} {μ : mzM} (hf : shF s b n ≠ 0 → mzCl d 173 [mzR 14, mzI (shF s b n)] μ (mzQi q))
    (hok : shF s b n = 0 → ∀ n', n' = (if b = 0 then 0 else n) → ∀ μ', (∀ k j, (k ≠ 44 + s.toNat ∨ 1 < j) → k ≠ 48 + s.toNat → μ' k j = μ k j) → μ' (44 + s.toNat) 0 = b → μ' (44 + s.toNat) 1 = n' → (∀ j, j < 40 → μ' (48 + s.toNat) j = 0) → q n' μ') : mzCl (d + 1) 165 [mzR 14, mzI s, mzI b, mzI n] μ (mzQi q) := by
  have fd : ∀ f : Int, shF s b n = f → f ≠ 0 → mzCl d 173 [mzR 14, mzI f] μ (mzQi fun r m => q r m) := fun f e z => by rw [← e]; exact hf (by rw [e]; exact z)
  refine g165_e _ _ _ _ (k_isSheet (fun a1 a2 => ⟨fun z => absurd z (by decide), fun _ => ?_⟩) (fun a => ⟨fun _ => fd _ (by unfold shF; rw [if_neg (fun c => a c.1)]) (by decide), fun z => absurd rfl z⟩))
  have lt : s.toNat < 4 := by omega
  have fill : ∀ n' : Int, n' = (if b = 0 then 0 else n) → (b = 0 ∨ b = 8 ∨ b = 16 ∨ b = 32) → 0 ≤ n → n ≤ 40 → mzCl d 191 [mzP 48 s.toNat, mzI 0] (mzS (mzS μ (44 + s.toNat) 0 b) (44 + s.toNat) 1 n') (mzQv fun m5 => (s.toNat < 4) ∧ (q (m5 (44 + s.toNat) 1) m5)) := by
    intro n' e1 e2 e3 e4
    refine k_filln lt (fun m5 f1 f2 => ⟨lt, ?_⟩)
    have e : m5 (44 + s.toNat) 1 = n' := by rw [f1 _ _ (by omega), S_eq]
    rw [e]
    refine hok (by unfold shF; rw [if_pos ⟨⟨a1, a2⟩, e2⟩, if_neg (by omega), if_neg (by omega)]) n' e1 m5 (fun k j h1 h2 => ?_) ?_ e f2
    · rw [f1 _ _ h2, S_ne (by omega), S_ne (by omega)]
    · rw [f1 _ _ (by omega), S_ne (by omega), S_eq]
  have neg : (b = 0 ∨ b = 8 ∨ b = 16 ∨ b = 32) → n < 0 → shF s b n = -1000007 := fun e1 e2 => by unfold shF; rw [if_pos ⟨⟨a1, a2⟩, e1⟩, if_pos e2]
  have big : (b = 0 ∨ b = 8 ∨ b = 16 ∨ b = 32) → 40 < n → shF s b n = -1000001 := fun e1 e2 => by unfold shF; rw [if_pos ⟨⟨a1, a2⟩, e1⟩, if_neg (by omega), if_pos e2]
  have four : (b = 0 ∨ b = 8 ∨ b = 16 ∨ b = 32) → ((0 : Int) ≤ n → (n ≤ 40 → ((0 : Int) ≤ s ∧ (s : Int) < 4) ∧ ((s.toNat < 4) ∧ ((b ≠ 0 → (s.toNat < 4) ∧ ((s.toNat < 4) ∧ (mzCl d 191 [mzP 48 s.toNat, mzI 0] (mzS (mzS μ (44 + s.toNat) 0 b) (44 + s.toNat) 1 n) (mzQv fun m5 => (s.toNat < 4) ∧ (q (m5 (44 + s.toNat) 1) m5))))) ∧ (b = 0 → (s.toNat < 4) ∧ ((s.toNat < 4) ∧ (mzCl d 191 [mzP 48 s.toNat, mzI 0] (mzS (mzS μ (44 + s.toNat) 0 b) (44 + s.toNat) 1 0) (mzQv fun m6 => (s.toNat < 4) ∧ (q (m6 (44 + s.toNat) 1) m6)))))))) ∧ ((40 : Int) < n → mzCl d 173 [mzR 14, mzI (-1000001)] μ (mzQi fun r8 m7 => q r8 m7))) ∧ (n < 0 → mzCl d 173 [mzR 14, mzI (-1000007)] μ (mzQi fun r10 m9 => q r10 m9)) :=
    fun hb => ⟨fun n0 => ⟨fun n4 => ⟨⟨a1, a2⟩, lt, fun z => ⟨lt, lt, fill n (by rw [if_neg z]) hb n0 n4⟩, fun z => ⟨lt, lt, fill 0 (by rw [if_pos z]) hb n0 n4⟩⟩, fun z => fd _ (big hb z) (by decide)⟩, fun z => fd _ (neg hb z) (by decide)⟩
  exact ⟨fun z => four (Or.inl z), fun z0 => ⟨fun z => four (Or.inr (Or.inl z)), fun z8 => ⟨fun z => four (Or.inr (Or.inr (Or.inl z))), fun z16 => ⟨fun z => four (Or.inr (Or.inr (Or.inr z))), fun z32 => fd _ (by unfold shF; rw [if_neg (fun c => by omega)]) (by decide)⟩⟩⟩⟩
theorem c_sheet {d : Nat} {q : Int → mzM → Prop} {s b n : Int} {μ : mzM} (hf : shF s b n ≠ 0 → mzCl (d + 1) 1 [mzR 0, mzI (shF s b n)] μ (mzQi q))
    (hok : shF s b n = 0 → ∀ n', n' = (if b = 0 then 0 else n) → ∀ μ', (∀ k j, (k ≠ 11 ∨ j ≠ s.toNat) → (k ≠ 12 ∨ j ≠ s.toNat) → (k ≠ 13 ∨ j < 40 * s.toNat ∨ 40 * s.toNat + 40 ≤ j) → μ' k j = μ k j) → μ' 11 s.toNat = b → μ' 12 s.toNat = n' → (∀ j, j < 40 → μ' 13 (40 * s.toNat + j) = 0) → q n' μ') : mzCl (d + 2) 83 [mzR 0, mzI s, mzI b, mzI n] μ (mzQi q) := by
  have fd : ∀ f : Int, shF s b n = f → f ≠ 0 → mzCl (d + 1) 1 [mzR 0, mzI f] μ (mzQi fun r m => q r m) := fun f e z => by rw [← e]; exact hf (by rw [e]; exact z)
  refine g83_e _ _ _ _ (c_isSheet (fun a1 a2 => ⟨fun z => absurd z (by decide), fun _ => ?_⟩) (fun a => ⟨fun _ => fd _ (by unfold shF; rw [if_neg (fun c => a c.1)]) (by decide), fun z => absurd rfl z⟩))
  have lt : s.toNat < 4 := by omega
  have es : ((s.toNat : Nat) : Int) = s := by omega
  have fill : ∀ n' : Int, n' = (if b = 0 then 0 else n) → (b = 0 ∨ b = 8 ∨ b = 16 ∨ b = 32) → 0 ≤ n → n ≤ 40 → mzWp (d + 2) 83 86 [mzR 0, mzI s, none, none, mzI 0] [] (mzS (mzS μ 11 s.toNat b) 12 s.toNat n') (mzQi q) := by
    intro n' e1 e2 e3 e4
    have := c_shL (d := d + 1) (q := q) (s := s.toNat) (μ := mzS (mzS μ 11 s.toNat b) 12 s.toNat n') lt (fun m5 f1 f2 => by
      rw [S_eq]
      refine hok (by unfold shF; rw [if_pos ⟨⟨a1, a2⟩, e2⟩, if_neg (by omega), if_neg (by omega)]) n' e1 m5 (fun k j h1 h2 h3 => ?_) ?_ ?_ f2
      · rw [f1 _ _ h3, S_ne (by omega), S_ne (by omega)]
      · rw [f1 _ _ (by omega), S_ne (by omega), S_eq]
      · rw [f1 _ _ (by omega), S_eq])
    rw [es] at this
    exact this
  have neg : (b = 0 ∨ b = 8 ∨ b = 16 ∨ b = 32) → n < 0 → shF s b n = -1000007 := fun e1 e2 => by unfold shF; rw [if_pos ⟨⟨a1, a2⟩, e1⟩, if_pos e2]
  have big : (b = 0 ∨ b = 8 ∨ b = 16 ∨ b = 32) → 40 < n → shF s b n = -1000001 := fun e1 e2 => by unfold shF; rw [if_pos ⟨⟨a1, a2⟩, e1⟩, if_neg (by omega), if_pos e2]
  have four : (b = 0 ∨ b = 8 ∨ b = 16 ∨ b = 32) → ((0 : Int) ≤ n → (n ≤ 40 → ((0 : Int) ≤ s ∧ (s : Int) < 4) ∧ ((b ≠ 0 → ((0 : Int) ≤ s ∧ (s : Int) < 4) ∧ (mzWp (d + 2) 83 86 [mzR 0, mzI s, none, none, mzI 0] [] (mzS (mzS μ 11 s.toNat b) 12 s.toNat n) (mzQi q))) ∧ (b = 0 → ((0 : Int) ≤ s ∧ (s : Int) < 4) ∧ (mzWp (d + 2) 83 86 [mzR 0, mzI s, none, none, mzI 0] [] (mzS (mzS μ 11 s.toNat b) 12 s.toNat 0) (mzQi q))))) ∧ ((40 : Int) < n → mzCl (d + 1) 1 [mzR 0, mzI (-1000001)] μ (mzQi fun r8 m7 => q r8 m7))) ∧ (n < 0 → mzCl (d + 1) 1 [mzR 0, mzI (-1000007)] μ (mzQi fun r10 m9 => q r10 m9)) :=
    fun hb => ⟨fun n0 => ⟨fun n4 => ⟨⟨a1, a2⟩, fun z => ⟨⟨a1, a2⟩, fill n (by rw [if_neg z]) hb n0 n4⟩, fun z => ⟨⟨a1, a2⟩, fill 0 (by rw [if_pos z]) hb n0 n4⟩⟩, fun z => fd _ (big hb z) (by decide)⟩, fun z => fd _ (neg hb z) (by decide)⟩
  exact ⟨fun z => four (Or.inl z), fun z0 => ⟨fun z => four (Or.inr (Or.inl z)), fun z8 => ⟨fun z => four (Or.inr (Or.inr (Or.inl z))), fun z16 => ⟨fun z => four (Or.inr (Or.inr (Or.inr z))), fun z32 => fd _ (by unfold shF; rw [if_neg (fun c => by omega)]) (by decide)⟩⟩⟩⟩
theorem p_sheet {d : Nat} {μ : mzM} {w : Wd} {q : Int → Int → mzM → Prop} {s b n : Int} (R : RW μ w) (h : ∀ a μ' w', RW μ' w' → q a a μ') : mzCl (d + 2) 165 [mzR 14, mzI s, mzI b, mzI n] μ (mzQi fun a m1 => mzCl (d + 2) 83 [mzR 0, mzI s, mzI b, mzI n] m1 (mzQi fun c m2 => q a c m2)) := by
  refine k_sheet (fun z => k_fd (shF_r _ _ _ z) R.1.1 R.2.2.1 (fun m1 f1 c1 => c_sheet (fun z => c_fd (shF_r _ _ _ z) (R.2.1.c f1) (fun m2 f2 i2 => h _ m2 w (R.st R.1 f1 c1 f2 i2))) (fun z2 => absurd z2 z))) (fun z n' e m1 f1 f2 f3 f4 => c_sheet (fun z2 => absurd z z2) (fun _ n2 e2 m2 g1 g2 g3 g4 => ?_))
  have en : n2 = n' := e2.trans e.symm
  subst en
  have c : ((0 ≤ s ∧ s < 4) ∧ (b = 0 ∨ b = 8 ∨ b = 16 ∨ b = 32)) ∧ 0 ≤ n ∧ n ≤ 40 := by
    unfold shF at z
    by_cases c : (0 ≤ s ∧ s < 4) ∧ (b = 0 ∨ b = 8 ∨ b = 16 ∨ b = 32)
    · rw [if_pos c] at z
      by_cases c2 : n < 0
      · rw [if_pos c2] at z; exact absurd z (by decide)
      · rw [if_neg c2] at z
        by_cases c3 : 40 < n
        · rw [if_pos c3] at z; exact absurd z (by decide)
        · exact ⟨c, by omega, by omega⟩
    · rw [if_neg c] at z; exact absurd z (by decide)
  have lt : s.toNat < 4 := by omega
  refine h _ m2 w (R.sh (fun k j h1 h2 h3 h4 => ?_) (R.2.2.2.2.2.put lt c.1.2 (n := n2) ?_ g2 ?_ g3 ?_ (fun i hi => ?_) (fun t ht hts => ⟨?_, ?_, ?_, ?_, fun i hi => ⟨?_, ?_⟩⟩)))
  · rw [g1 k j (by omega) (by omega) (by omega), f1 k j (by omega) (by omega)]
  · rw [e]
    split <;> omega
  · rw [g1 _ _ (by omega) (by omega) (by omega)]; exact f2
  · rw [g1 _ _ (by omega) (by omega) (by omega)]; exact f3
  · rw [g4 i hi, g1 _ _ (by omega) (by omega) (by omega), f4 i hi]
  · rw [g1 _ _ (by omega) (by omega) (by omega), f1 _ _ (by omega) (by omega)]
  · rw [g1 _ _ (by omega) (by omega) (by omega), f1 _ _ (by omega) (by omega)]
  · rw [g1 _ _ (by omega) (by omega) (by omega), f1 _ _ (by omega) (by omega)]
  · rw [g1 _ _ (by omega) (by omega) (by omega), f1 _ _ (by omega) (by omega)]
  · rw [g1 _ _ (by omega) (by omega) (by omega), f1 _ _ (by omega) (by omega)]
  · rw [g1 _ _ (by omega) (by omega) (by omega), f1 _ _ (by omega) (by omega)]
/-- write -/
theorem p_write {d : Nat} {μ : mzM} {w : Wd} {q : Int → Int → mzM → Prop} {s i v : Int} (R : RW μ w) (h : ∀ a μ' w', RW μ' w' → q a a μ') : mzCl (d + 2) 166 [mzR 14, mzI s, mzI i, mzI v] μ (mzQi fun a m1 => mzCl (d + 2) 84 [mzR 0, mzI s, mzI i, mzI v] m1 (mzQi fun c m2 => q a c m2)) := by
  have SH := R.2.2.2.2.2
  have fM : ∀ m1, FC μ m1 → ∀ t, m1 11 t = μ 11 t ∧ m1 12 t = μ 12 t := fun m1 f t => ⟨f 11 t (by unfold scC isW; omega), f 12 t (by unfold scC isW; omega)⟩
  refine g166_e _ _ _ _ (k_isSheet (fun a1 a2 => ⟨fun _ => ⟨⟨a1, a2⟩, by omega, ?_⟩, fun z => absurd z (by decide)⟩) (fun a => ⟨fun z => absurd rfl z, fun _ => k_fd (by omega) R.1.1 R.2.2.1 (fun m1 f1 c1 => g84_e _ _ _ _ (c_isSheet (fun b1 b2 => absurd ⟨b1, b2⟩ a) (fun _ => ⟨fun z => absurd rfl z, fun _ => c_fd (by omega) (R.2.1.c f1) (fun m2 f2 i2 => h _ m2 w (R.st R.1 f1 c1 f2 i2))⟩)))⟩))
  obtain ⟨s, rfl⟩ : ∃ k : Nat, s = k := ⟨s.toNat, by omega⟩
  rw [Int.toNat_natCast]
  have lt : s < 4 := by omega
  obtain ⟨s1, s2, s3, s4, s5⟩ := SH s lt
  have bad : ∀ (f : Int), -1000007 ≤ f ∧ f ≤ -1000001 → (∀ m1, FC μ m1 → mzCl (d + 1) 1 [mzR 0, mzI f] m1 (mzQi fun c m2 => q f c m2) → mzCl (d + 2) 84 [mzR 0, mzI s, mzI i, mzI v] m1 (mzQi fun c m2 => q f c m2)) → mzCl (d + 1) 173 [mzR 14, mzI f] μ (mzQi fun a m1 => mzCl (d + 2) 84 [mzR 0, mzI s, mzI i, mzI v] m1 (mzQi fun c m2 => q a c m2)) := fun f hf k => k_fd hf R.1.1 R.2.2.1 (fun m1 f1 c1 => k m1 f1 (c_fd hf (R.2.1.c f1) (fun m2 f2 i2 => h _ m2 w (R.st R.1 f1 c1 f2 i2))))
  have hN : mzW (μ 12 s - 1) = μ 12 s - 1 := wid (by omega) (by omega)
  have out : ¬ (0 ≤ i ∧ i < μ 12 s) → μ 11 s ≠ 0 → ∀ m1, FC μ m1 → mzCl (d + 1) 1 [mzR 0, mzI (-1000001)] m1 (mzQi fun c m2 => q (-1000001) c m2) → mzCl (d + 2) 84 [mzR 0, mzI s, mzI i, mzI v] m1 (mzQi fun c m2 => q (-1000001) c m2) := by
    intro c nb m1 f1 k
    refine g84_e _ _ _ _ (c_isSheet (fun b1 b2 => ⟨fun _ => ⟨⟨b1, b2⟩, ?_⟩, fun z => absurd z (by decide)⟩) (fun b => absurd ⟨a1, a2⟩ b))
    rw [Int.toNat_natCast, (fM m1 f1 s).1, (fM m1 f1 s).2, hN]
    exact ⟨fun _ => ⟨⟨a1, a2⟩, c_in (fun z1 z2 => by omega) (fun _ => ⟨fun z => absurd rfl z, fun _ => k⟩)⟩, fun z => absurd z nb⟩
  refine ⟨fun nb => ⟨fun z => ?_, fun i0 => ⟨lt, fun i1 => ⟨lt, lt, ?_⟩, fun z => ?_⟩⟩, fun z => ?_⟩
  · exact bad _ (by omega) (out (by omega) (by rw [s1]; exact nb))
  · obtain ⟨i, rfl⟩ : ∃ k : Nat, i = k := ⟨i.toNat, by omega⟩
    have fin : ∀ x : Int, q 1 1 (mzS (mzS μ (48 + s) i x) 13 (40 * s + i) x) := by
      intro x
      refine h _ _ w (R.sh (fun k j h1 h2 h3 h4 => by rw [S_ne (by omega), S_ne (by omega)]) (SH.put lt s4 s3 ?_ ?_ ?_ ?_ (fun j hj => ?_) (fun t ht hts => ⟨?_, ?_, ?_, ?_, fun j hj => ⟨?_, ?_⟩⟩)))
      · rw [S_ne (by omega), S_ne (by omega)]
      · rw [S_ne (by omega), S_ne (by omega)]; exact s1.symm
      · rw [S_ne (by omega), S_ne (by omega)]
      · rw [S_ne (by omega), S_ne (by omega)]; exact s2.symm
      · by_cases e : j = i
        · rw [e, S_eq, S_ne (by omega), S_eq]
        · rw [S_ne (by omega), S_ne (by omega), S_ne (by omega), S_ne (by omega)]; exact s5 j hj
      · rw [S_ne (by omega), S_ne (by omega)]
      · rw [S_ne (by omega), S_ne (by omega)]
      · rw [S_ne (by omega), S_ne (by omega)]
      · rw [S_ne (by omega), S_ne (by omega)]
      · rw [S_ne (by omega), S_ne (by omega)]
      · rw [S_ne (by omega), S_ne (by omega)]
    have ew : mzW (mzW (40 * (s : Int)) + (i : Int)) = ((40 * s + i : Nat) : Int) := by unfold mzW; omega
    have mod : ∀ (x : Int), (μ 11 s = 8 → mzB8 v = x) → (μ 11 s ≠ 8 → μ 11 s = 16 → mzB16 v = x) → (μ 11 s ≠ 8 → μ 11 s ≠ 16 → v = x) → mzCl (d + 2) 84 [mzR 0, mzI s, mzI i, mzI v] (mzS μ (48 + s) i x) (mzQi fun c m2 => q 1 c m2) := by
      intro x e8 e16 e32
      refine g84_e _ _ _ _ (c_isSheet (fun b1 b2 => ⟨fun _ => ⟨⟨b1, b2⟩, ?_⟩, fun z => absurd z (by decide)⟩) (fun b => absurd ⟨a1, a2⟩ b))
      rw [Int.toNat_natCast, S_ne (a := 11) (by omega), S_ne (a := 12) (by omega), hN, ew, Int.toNat_natCast]
      refine ⟨fun _ => ⟨⟨a1, a2⟩, c_in (fun z1 z2 => ⟨fun _ => ⟨⟨a1, a2⟩, ?_⟩, fun z => absurd z (by decide)⟩) (fun z => by omega)⟩, fun z => absurd z (by rw [s1]; exact nb)⟩
      rw [S_ne (a := 11) (by omega)]
      refine ⟨fun n8 => ⟨⟨a1, a2⟩, fun n16 => ⟨by omega, ?_⟩, fun y16 => ⟨by omega, ?_⟩⟩, fun y8 => ⟨by omega, ?_⟩⟩
      · rw [e32 n8 n16]; exact fin x
      · rw [e16 n8 y16]; exact fin x
      · rw [e8 y8]; exact fin x
    refine g91_e _ _ _ ⟨lt, fun y8 => ⟨⟨lt, by omega, by omega⟩, ?_⟩, fun n8 => ⟨fun y16 => ⟨⟨lt, by omega, by omega⟩, ?_⟩, fun n16 => ⟨⟨lt, by omega, by omega⟩, ?_⟩⟩⟩
    · exact mod _ (fun _ => rfl) (fun z => absurd (s1.trans y8) z) (fun z => absurd (s1.trans y8) z)
    · exact mod _ (fun z => absurd (s1.symm.trans z) n8) (fun _ _ => rfl) (fun _ z => absurd (s1.trans y16) z)
    · exact mod _ (fun z => absurd (s1.symm.trans z) n8) (fun _ z => absurd (s1.symm.trans z) n16) (fun _ _ => rfl)
  · exact bad _ (by omega) (out (by omega) (by rw [s1]; exact nb))
  · refine bad _ (by omega) (fun m1 f1 k => g84_e _ _ _ _ (c_isSheet (fun b1 b2 => ⟨fun _ => ⟨⟨b1, b2⟩, ?_⟩, fun z => absurd z (by decide)⟩) (fun b => absurd ⟨a1, a2⟩ b)))
    rw [Int.toNat_natCast, (fM m1 f1 s).1]
    exact ⟨fun nb => absurd (s1.trans z) nb, fun _ => k⟩
