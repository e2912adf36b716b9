/-! PAIRS: copy, three -/
theorem c_copy {d : Nat} {q : Int → mzM → Prop} {s f t o n : Int} {μ : mzM} (hr : ∀ k, k < 4 → 0 ≤ μ 12 k ∧ μ 12 k ≤ 40) (h32 : (-2147483648 ≤ f ∧ f < 2147483648) ∧ -2147483648 ≤ o ∧ o < 2147483648) (hf : cpF μ s f t o n ≠ 0 → mzCl (d + 1) 1 [mzR 0, mzI (cpF μ s f t o n)] μ (mzQi q))
    (hok : cpF μ s f t o n = 0 → ∀ μ', (∀ k j, (k ≠ 13 ∨ j < 40 * t.toNat + o.toNat ∨ 40 * t.toNat + o.toNat + n.toNat ≤ j) → μ' k j = μ k j) → (∀ j, j < n.toNat → μ' 13 (40 * t.toNat + o.toNat + j) = μ 13 (40 * s.toNat + f.toNat + j)) → q n μ') : mzCl (d + 2) 85 [mzR 0, mzI s, mzI f, mzI t, mzI o, mzI n] μ (mzQi q) := by
  have fd : ∀ g : Int, cpF μ s f t o n = g → g ≠ 0 → mzCl (d + 1) 1 [mzR 0, mzI g] μ (mzQi fun r m => q r m) := fun g e z => by rw [← e]; exact hf (by rw [e]; exact z)
  refine g85_e _ _ _ _ _ _ (c_isSheet (fun a1 a2 => ⟨fun z => absurd z (by decide), fun _ => c_isSheet (fun b1 b2 => ⟨fun _ => ⟨⟨a1, a2⟩, ?_⟩, fun z => absurd z (by decide)⟩) (fun b => ⟨fun z => absurd rfl z, fun _ => fd _ (cpF_1 (fun c => b c.2)) (by decide)⟩)⟩) (fun a => ⟨fun _ => fd _ (cpF_1 (fun c => a c.1)) (by decide), fun z => absurd rfl z⟩))
  have c1 : (0 ≤ s ∧ s < 4) ∧ 0 ≤ t ∧ t < 4 := ⟨⟨a1, a2⟩, b1, b2⟩
  obtain ⟨s, rfl⟩ : ∃ k : Nat, s = k := ⟨s.toNat, by omega⟩
  obtain ⟨t, rfl⟩ : ∃ k : Nat, t = k := ⟨t.toNat, by omega⟩
  have ls : s < 4 := by omega
  have lt : t < 4 := by omega
  have r1 := hr s ls
  have r2 := hr t lt
  refine ⟨fun z => fd _ (cpF_2 c1 (Or.inl z)) (by decide), fun n1 => ⟨⟨b1, b2⟩, fun n2 => ⟨⟨a1, a2⟩, ⟨b1, b2⟩, fun e => ?_, fun ne => fd _ (cpF_3 c1 (fun c => c.elim n1 n2) ne) (by decide)⟩, fun z => fd _ (cpF_2 c1 (Or.inr z)) (by decide)⟩⟩
  have c2 : ¬ (μ 11 (s : Int).toNat = 0 ∨ μ 11 (t : Int).toNat = 0) := fun c => c.elim n1 n2
  refine ⟨fun z => fd _ (cpF_4 c1 c2 e (fun c => by omega)) (by decide), fun x1 => ⟨fun z => fd _ (cpF_4 c1 c2 e (fun c => by omega)) (by decide), fun x2 => ⟨fun z => fd _ (cpF_4 c1 c2 e (fun c => by omega)) (by decide), fun x3 => ⟨⟨a1, a2⟩, ?_⟩⟩⟩⟩
  have es : ∀ k : Nat, ((k : Int)).toNat = k := fun k => Int.toNat_natCast k
  rw [wid (z := μ 12 (s : Int).toNat - f) (by rw [es]; omega) (by rw [es]; omega), wid (z := μ 12 (t : Int).toNat - o) (by rw [es]; omega) (by rw [es]; omega)]
  refine ⟨fun z => fd _ (cpF_4 c1 c2 e (fun c => Int.not_lt.mpr c.2.2.2.1 z)) (by decide), fun x4 => ⟨⟨b1, b2⟩, fun x5 => ?_, fun z => fd _ (cpF_4 c1 c2 e (fun c => Int.not_lt.mpr c.2.2.2.2 z)) (by decide)⟩⟩
  have ok := hok (cpF_5 c1 c2 e ⟨x1, x2, x3, x4, x5⟩)
  rw [es] at x4 x5
  clear hok fd hf hr e c2 n1 n2
  obtain ⟨f, rfl⟩ : ∃ k : Nat, f = k := ⟨f.toNat, by omega⟩
  obtain ⟨o, rfl⟩ : ∃ k : Nat, o = k := ⟨o.toNat, by omega⟩
  obtain ⟨n, rfl⟩ : ∃ k : Nat, n = k := ⟨n.toNat, by omega⟩
  simp only [es] at ok
  have f1 : f + n ≤ 40 := by omega
  have o1 : o + n ≤ 40 := by omega
  have up : (s ≠ t ∨ o ≤ f) → mzWp (d + 2) 85 139 [mzR 0, mzI s, mzI f, mzI t, mzI o, mzI n, mzI 0, mzI 0, none] [] μ (mzQi q) := fun hu => cp_up ls lt f1 o1 hu ok n 0 0 μ (by omega) rfl (fun _ _ _ => rfl) (fun j hj => absurd hj (Nat.not_lt_zero j))
  refine ⟨fun z => up (Or.inl (fun c => z (congrArg Int.ofNat c))), fun z => ⟨fun z2 => up (Or.inr (by omega)), fun z2 => ?_⟩⟩
  have est : s = t := Int.ofNat.inj z
  subst est
  exact cp_dn ls f1 o1 (by omega) ok n 0 0 μ (by omega) rfl (fun _ _ _ => rfl) (fun j hj hc => absurd hj (by omega))
theorem p_copy {d : Nat} {μ : mzM} {w : Wd} {q : Int → Int → mzM → Prop} {s f t o n : Int} (h32 : (-2147483648 ≤ f ∧ f < 2147483648) ∧ -2147483648 ≤ o ∧ o < 2147483648) (R : RW μ w) (h : ∀ a μ' w', RW μ' w' → q a a μ') : mzCl (d + 2) 167 [mzR 14, mzI s, mzI f, mzI t, mzI o, mzI n] μ (mzQi fun a m1 => mzCl (d + 2) 85 [mzR 0, mzI s, mzI f, mzI t, mzI o, mzI n] m1 (mzQi fun c m2 => q a c m2)) := by
  have SH := R.2.2.2.2.2
  have cg : ∀ m1 : mzM, (∀ j, m1 11 j = μ 11 j) → (∀ j, m1 12 j = μ 12 j) → cpF m1 s f t o n = cpF μ s f t o n := fun m1 e1 e2 => by
    unfold cpF
    rw [e1, e1, e2, e2]
  refine k_copy SH (fun z => k_fd (cpF_r _ _ _ _ _ _ z) R.1.1 R.2.2.1 (fun m1 f1 c1 => ?_)) (fun z => ?_)
  · have e := cg m1 (fun j => f1 11 j (by unfold scC isW; omega)) (fun j => f1 12 j (by unfold scC isW; omega))
    refine c_copy (fun k hk => by rw [f1 12 k (by unfold scC isW; omega)]; exact (SH k hk).2.2.1) h32 (fun z2 => ?_) (fun z2 => absurd (e.symm.trans z2) z)
    rw [e]
    exact c_fd (cpF_r _ _ _ _ _ _ z) (R.2.1.c f1) (fun m2 f2 i2 => h _ m2 w (R.st R.1 f1 c1 f2 i2))
  · have ne : ∀ k j, (k < 48 ∨ 51 < k) → ((0 ≤ s ∧ s < 4) ∧ 0 ≤ t ∧ t < 4) → mzCp μ (48 + s.toNat) f.toNat (48 + t.toNat) o.toNat n.toNat k j = μ k j := fun k j hk c => by
      unfold mzCp
      rw [if_neg (by omega)]
    have c : ((0 ≤ s ∧ s < 4) ∧ 0 ≤ t ∧ t < 4) ∧ (0 ≤ n ∧ 0 ≤ f ∧ 0 ≤ o ∧ n ≤ μ 12 s.toNat - f ∧ n ≤ μ 12 t.toNat - o) := by
      by_cases c1 : (0 ≤ s ∧ s < 4) ∧ 0 ≤ t ∧ t < 4
      · by_cases c2 : μ 11 s.toNat = 0 ∨ μ 11 t.toNat = 0
        · rw [cpF_2 c1 c2] at z; exact absurd z (by decide)
        · by_cases c3 : μ 11 s.toNat = μ 11 t.toNat
          · by_cases c4 : 0 ≤ n ∧ 0 ≤ f ∧ 0 ≤ o ∧ n ≤ μ 12 s.toNat - f ∧ n ≤ μ 12 t.toNat - o
            · exact ⟨c1, c4⟩
            · rw [cpF_4 c1 c2 c3 c4] at z; exact absurd z (by decide)
          · rw [cpF_3 c1 c2 c3] at z; exact absurd z (by decide)
      · rw [cpF_1 c1] at z; exact absurd z (by decide)
    have e := cg (mzCp μ (48 + s.toNat) f.toNat (48 + t.toNat) o.toNat n.toNat) (fun j => ne 11 j (by omega) c.1) (fun j => ne 12 j (by omega) c.1)
    refine c_copy (fun k hk => by rw [ne 12 k (by omega) c.1]; exact (SH k hk).2.2.1) h32 (fun z2 => absurd (e.trans z) z2) (fun _ m2 g1 g2 => ?_)
    have ls : s.toNat < 4 := by omega
    have lt : t.toNat < 4 := by omega
    obtain ⟨-, -, r1, -, s5⟩ := SH _ ls
    obtain ⟨-, -, r2, -, -⟩ := SH _ lt
    generalize hs' : s.toNat = s' at *
    generalize ht' : t.toNat = t' at *
    obtain ⟨-, x1, x2, x3, x4, x5⟩ := c
    have fl : f.toNat + n.toNat ≤ 40 := by omega
    have ol : o.toNat + n.toNat ≤ 40 := by omega
    generalize f.toNat = f' at *
    generalize o.toNat = o' at *
    generalize n.toNat = n' at *
    have in1 : ∀ i, o' ≤ i → i < o' + n' → mzCp μ (48 + s') f' (48 + t') o' n' (48 + t') i = μ (48 + s') (f' + (i - o')) := fun i a b => by unfold mzCp; rw [if_pos ⟨rfl, a, b⟩]
    have out : ∀ k i, (k ≠ 48 + t' ∨ i < o' ∨ o' + n' ≤ i) → mzCp μ (48 + s') f' (48 + t') o' n' k i = μ k i := fun k i a => by unfold mzCp; rw [if_neg (by omega)]
    refine h _ m2 w (R.sh (fun k j h1 h2 h3 h4 => by rw [g1 k j (Or.inl h3), out k j (Or.inl (by omega))]) (fun k hk => ?_))
    obtain ⟨y1, y2, y3, y4, y5⟩ := SH k hk
    rw [g1 11 k (by omega), g1 12 k (by omega), g1 (44 + k) 0 (by omega), g1 (44 + k) 1 (by omega), out 11 k (Or.inl (by omega)), out 12 k (Or.inl (by omega)), out (44 + k) 0 (Or.inl (by omega)), out (44 + k) 1 (Or.inl (by omega))]
    refine ⟨y1, y2, y3, y4, fun i hi => ?_⟩
    rw [g1 (48 + k) i (Or.inl (by omega))]
    by_cases hkt : k = t' ∧ o' ≤ i ∧ i < o' + n'
    · obtain ⟨rfl, i1, i2⟩ := hkt
      have e3 : 40 * k + i = 40 * k + o' + (i - o') := by omega
      rw [e3, g2 _ (by omega), in1 i i1 i2, out 13 _ (Or.inl (by omega)), Nat.add_assoc (40 * s')]
      exact s5 _ (by omega)
    · rw [g1 13 _ (by omega), out 13 _ (Or.inl (by omega)), out (48 + k) i (by omega)]
      exact y5 i hi
