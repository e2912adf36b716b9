/-! THE LAW'S LOOP -/
theorem mz_scr {d y pc : Nat} {L S : List mzV} {μ : mzM} {Q Q' : mzV → mzM → Prop} (h : mzWp d y pc L S μ Q) (hq : ∀ v μ', (∀ j, μ' 148 j = μ 148 j) → μ' 149 0 = μ 149 0 → Q v μ' → Q' v μ') : mzWp d y pc L S μ Q' :=
  fun G p l e R s m args below meth c cells slots Z C K H locs ls h1 => h G p l e R s m args below meth c cells slots Z C (fun v μ' H' locs' ls' pc' q1 q2 q3 q4 q5 q6 => K v μ' H' locs' ls' pc' (hq v μ' (fun j => (q4.2.2.1 j).trans (h1.2.2.1 j).symm) (q4.2.2.2.trans h1.2.2.2.symm) q1) q2 q3 q4 q5 q6) H locs ls h1
theorem mz_know {d y pc : Nat} {L S : List mzV} {μ : mzM} {Q : mzV → mzM → Prop} (h : (∀ k j, -2147483648 ≤ μ k j ∧ μ k j < 2147483648) → (∃ n : Nat, μ 149 0 = n) → mzWp d y pc L S μ Q) : mzWp d y pc L S μ Q :=
  fun G p l e R s m args below meth c cells slots Z C K H locs ls h1 => h h1.2.1 ⟨_, h1.2.2.2⟩ G p l e R s m args below meth c cells slots Z C K H locs ls h1
theorem mz_scrI {d y : Nat} {as : List mzV} {μ : mzM} {q q' : Int → mzM → Prop} (h : mzCl d y as μ (mzQi q)) (hq : ∀ r μ', (∀ j, μ' 148 j = μ 148 j) → μ' 149 0 = μ 149 0 → q r μ' → q' r μ') : mzCl d y as μ (mzQi q') := mz_scr h (fun v μ' e1 e2 z => by
  match v, z with
  | some (.inl x), z => exact hq x μ' e1 e2 z
  | some (.inr _), z => exact (show False from z).elim
  | none, z => exact (show False from z).elim)
theorem mz_scrJ {d y : Nat} {as : List mzV} {μ : mzM} {q q' : Int → mzM → Prop} (h : mzCl d y as μ (mzQj q)) (hq : ∀ r μ', (∀ j, μ' 148 j = μ 148 j) → μ' 149 0 = μ 149 0 → q r μ' → q' r μ') : mzCl d y as μ (mzQj q') := mz_scr h (fun v μ' e1 e2 z => by
  match v, z with
  | some (.inr (.inl x)), z => exact hq x μ' e1 e2 z
  | some (.inl _), z => exact (show False from z).elim
  | some (.inr (.inr _)), z => exact (show False from z).elim
  | none, z => exact (show False from z).elim)
/-- the script's ints behind place x3 are there -/
def LwB (μ : mzM) (x3 : Int) : Prop := ∀ k : Int, 1 ≤ k → k ≤ 5 → 0 ≤ mzW (x3 + k) ∧ mzW (x3 + k) < μ 149 0
theorem cmp_rf (a : Int) : mzCmp a a = 0 := by unfold mzCmp; rw [if_neg (Int.lt_irrefl a), if_pos rfl]
theorem lc_feed {e : Nat} {q : Int → mzM → Prop} {x3 : Int} {μ : mzM} {w : Wd} (R : RW μ w) (hb : ∀ k j, -2147483648 ≤ μ k j ∧ μ k j < 2147483648) (B : LwB μ x3) (NX : ∀ m2 w2, RW m2 w2 → mzWp (e + 11) 0 1452 [mzR 148, mzR 14, mzR 0, mzI x3] [] m2 (mzQi q)) : mzWp (e + 11) 0 224 [mzR 148, mzR 14, mzR 0, mzI x3] [] μ (mzQi q) := by
  refine g0_224 _ _ ⟨B 1 (by decide) (by decide), B 2 (by decide) (by decide), ?_⟩
  refine mz_scrI (p_feed (q := fun a c m2 => (∃ w2, RW m2 w2) ∧ a = c) (hb _ _) R (fun a m2 w2 R2 => ⟨⟨w2, R2⟩, rfl⟩)) (fun a m1 e1 e2 hm => ?_)
  simp only [e1, e2]
  exact ⟨B 1 (by decide) (by decide), B 2 (by decide) (by decide), mz_scrI hm (fun c m2 _ f2 hq => by
    obtain ⟨⟨w2, R2⟩, _⟩ := hq
    exact NX m2 w2 R2)⟩
theorem lc_wipe {e : Nat} {q : Int → mzM → Prop} {x3 : Int} {μ : mzM} {w : Wd} (R : RW μ w) (hb : ∀ k j, -2147483648 ≤ μ k j ∧ μ k j < 2147483648) (B : LwB μ x3) (NX : ∀ m2 w2, RW m2 w2 → mzWp (e + 11) 0 1452 [mzR 148, mzR 14, mzR 0, mzI x3] [] m2 (mzQi q)) : mzWp (e + 11) 0 257 [mzR 148, mzR 14, mzR 0, mzI x3] [] μ (mzQi q) := by
  refine g0_257 _ _ ?_
  refine mz_scrI (p_wipe (q := fun a c m2 => (∃ w2, RW m2 w2) ∧ a = c) R (fun a m2 w2 R2 => ⟨⟨w2, R2⟩, rfl⟩)) (fun a m1 e1 e2 hm => ?_)
  exact mz_scrI hm (fun c m2 _ f2 hq => by
    obtain ⟨⟨w2, R2⟩, _⟩ := hq
    exact NX m2 w2 R2)
theorem lc_world {e : Nat} {q : Int → mzM → Prop} {x3 : Int} {μ : mzM} {w : Wd} (R : RW μ w) (hb : ∀ k j, -2147483648 ≤ μ k j ∧ μ k j < 2147483648) (B : LwB μ x3) (NX : ∀ m2 w2, RW m2 w2 → mzWp (e + 11) 0 1452 [mzR 148, mzR 14, mzR 0, mzI x3] [] m2 (mzQi q)) : mzWp (e + 11) 0 270 [mzR 148, mzR 14, mzR 0, mzI x3] [] μ (mzQi q) := by
  refine g0_270 _ _ ?_
  refine mz_scrI (p_world (q := fun a c m2 => (∃ w2, RW m2 w2) ∧ a = c) R (fun a m2 w2 R2 => ⟨⟨w2, R2⟩, rfl⟩)) (fun a m1 e1 e2 hm => ?_)
  exact mz_scrI hm (fun c m2 _ f2 hq => by
    obtain ⟨⟨w2, R2⟩, _⟩ := hq
    exact NX m2 w2 R2)
theorem lc_placeOf {e : Nat} {q : Int → mzM → Prop} {x3 : Int} {μ : mzM} {w : Wd} (R : RW μ w) (hb : ∀ k j, -2147483648 ≤ μ k j ∧ μ k j < 2147483648) (B : LwB μ x3) (NX : ∀ m2 w2, RW m2 w2 → mzWp (e + 11) 0 1452 [mzR 148, mzR 14, mzR 0, mzI x3] [] m2 (mzQi q)) : mzWp (e + 11) 0 283 [mzR 148, mzR 14, mzR 0, mzI x3] [] μ (mzQi q) := by
  refine g0_283 _ _ ⟨B 1 (by decide) (by decide), B 2 (by decide) (by decide), ?_⟩
  refine mz_scrI (p_placeOf (q := fun a c m2 => (∃ w2, RW m2 w2) ∧ a = c) R (fun a m2 w2 R2 => ⟨⟨w2, R2⟩, rfl⟩)) (fun a m1 e1 e2 hm => ?_)
  simp only [e1, e2]
  exact ⟨B 1 (by decide) (by decide), B 2 (by decide) (by decide), mz_scrI hm (fun c m2 _ f2 hq => by
    obtain ⟨⟨w2, R2⟩, _⟩ := hq
    exact NX m2 w2 R2)⟩
theorem lc_change {e : Nat} {q : Int → mzM → Prop} {x3 : Int} {μ : mzM} {w : Wd} (R : RW μ w) (hb : ∀ k j, -2147483648 ≤ μ k j ∧ μ k j < 2147483648) (B : LwB μ x3) (NX : ∀ m2 w2, RW m2 w2 → mzWp (e + 11) 0 1452 [mzR 148, mzR 14, mzR 0, mzI x3] [] m2 (mzQi q)) : mzWp (e + 11) 0 316 [mzR 148, mzR 14, mzR 0, mzI x3] [] μ (mzQi q) := by
  refine g0_316 _ _ ⟨B 1 (by decide) (by decide), B 2 (by decide) (by decide), B 3 (by decide) (by decide), ?_⟩
  refine mz_scrI (p_change (q := fun a c m2 => (∃ w2, RW m2 w2) ∧ a = c) R (fun a m2 w2 R2 => ⟨⟨w2, R2⟩, rfl⟩)) (fun a m1 e1 e2 hm => ?_)
  simp only [e1, e2]
  exact ⟨B 1 (by decide) (by decide), B 2 (by decide) (by decide), B 3 (by decide) (by decide), mz_scrI hm (fun c m2 _ f2 hq => by
    obtain ⟨⟨w2, R2⟩, _⟩ := hq
    exact NX m2 w2 R2)⟩
theorem lc_step {e : Nat} {q : Int → mzM → Prop} {x3 : Int} {μ : mzM} {w : Wd} (R : RW μ w) (hb : ∀ k j, -2147483648 ≤ μ k j ∧ μ k j < 2147483648) (B : LwB μ x3) (NX : ∀ m2 w2, RW m2 w2 → mzWp (e + 11) 0 1452 [mzR 148, mzR 14, mzR 0, mzI x3] [] m2 (mzQi q)) : mzWp (e + 11) 0 359 [mzR 148, mzR 14, mzR 0, mzI x3] [] μ (mzQi q) := by
  refine g0_359 _ _ ⟨B 1 (by decide) (by decide), ?_⟩
  refine mz_scrI (p_step (q := fun a c m2 => (∃ w2, RW m2 w2) ∧ a = c) R (fun a m2 w2 R2 => ⟨⟨w2, R2⟩, rfl⟩)) (fun a m1 e1 e2 hm => ?_)
  simp only [e1, e2]
  exact ⟨B 1 (by decide) (by decide), mz_scrI hm (fun c m2 _ f2 hq => by
    obtain ⟨⟨w2, R2⟩, _⟩ := hq
    exact NX m2 w2 R2)⟩
theorem lc_tie {e : Nat} {q : Int → mzM → Prop} {x3 : Int} {μ : mzM} {w : Wd} (R : RW μ w) (hb : ∀ k j, -2147483648 ≤ μ k j ∧ μ k j < 2147483648) (B : LwB μ x3) (NX : ∀ m2 w2, RW m2 w2 → mzWp (e + 11) 0 1452 [mzR 148, mzR 14, mzR 0, mzI x3] [] m2 (mzQi q)) : mzWp (e + 11) 0 382 [mzR 148, mzR 14, mzR 0, mzI x3] [] μ (mzQi q) := by
  refine g0_382 _ _ ⟨B 1 (by decide) (by decide), B 2 (by decide) (by decide), B 3 (by decide) (by decide), ?_⟩
  refine mz_scrI (p_tie (q := fun a c m2 => (∃ w2, RW m2 w2) ∧ a = c) R (fun a m2 w2 R2 => ⟨⟨w2, R2⟩, rfl⟩)) (fun a m1 e1 e2 hm => ?_)
  simp only [e1, e2]
  exact ⟨B 1 (by decide) (by decide), B 2 (by decide) (by decide), B 3 (by decide) (by decide), mz_scrI hm (fun c m2 _ f2 hq => by
    obtain ⟨⟨w2, R2⟩, _⟩ := hq
    exact NX m2 w2 R2)⟩
theorem lc_tieOf {e : Nat} {q : Int → mzM → Prop} {x3 : Int} {μ : mzM} {w : Wd} (R : RW μ w) (hb : ∀ k j, -2147483648 ≤ μ k j ∧ μ k j < 2147483648) (B : LwB μ x3) (NX : ∀ m2 w2, RW m2 w2 → mzWp (e + 11) 0 1452 [mzR 148, mzR 14, mzR 0, mzI x3] [] m2 (mzQi q)) : mzWp (e + 11) 0 425 [mzR 148, mzR 14, mzR 0, mzI x3] [] μ (mzQi q) := by
  refine g0_425 _ _ ⟨B 1 (by decide) (by decide), B 2 (by decide) (by decide), ?_⟩
  refine mz_scrI (p_tieOf (q := fun a c m2 => (∃ w2, RW m2 w2) ∧ a = c) R (fun a m2 w2 R2 => ⟨⟨w2, R2⟩, rfl⟩)) (fun a m1 e1 e2 hm => ?_)
  simp only [e1, e2]
  exact ⟨B 1 (by decide) (by decide), B 2 (by decide) (by decide), mz_scrI hm (fun c m2 _ f2 hq => by
    obtain ⟨⟨w2, R2⟩, _⟩ := hq
    exact NX m2 w2 R2)⟩
theorem lc_cut {e : Nat} {q : Int → mzM → Prop} {x3 : Int} {μ : mzM} {w : Wd} (R : RW μ w) (hb : ∀ k j, -2147483648 ≤ μ k j ∧ μ k j < 2147483648) (B : LwB μ x3) (NX : ∀ m2 w2, RW m2 w2 → mzWp (e + 11) 0 1452 [mzR 148, mzR 14, mzR 0, mzI x3] [] m2 (mzQi q)) : mzWp (e + 11) 0 458 [mzR 148, mzR 14, mzR 0, mzI x3] [] μ (mzQi q) := by
  refine g0_458 _ _ ⟨B 1 (by decide) (by decide), B 2 (by decide) (by decide), ?_⟩
  refine mz_scrI (p_cut (q := fun a c m2 => (∃ w2, RW m2 w2) ∧ a = c) R (fun a m2 w2 R2 => ⟨⟨w2, R2⟩, rfl⟩)) (fun a m1 e1 e2 hm => ?_)
  simp only [e1, e2]
  exact ⟨B 1 (by decide) (by decide), B 2 (by decide) (by decide), mz_scrI hm (fun c m2 _ f2 hq => by
    obtain ⟨⟨w2, R2⟩, _⟩ := hq
    exact NX m2 w2 R2)⟩
theorem lc_hold {e : Nat} {q : Int → mzM → Prop} {x3 : Int} {μ : mzM} {w : Wd} (R : RW μ w) (hb : ∀ k j, -2147483648 ≤ μ k j ∧ μ k j < 2147483648) (B : LwB μ x3) (NX : ∀ m2 w2, RW m2 w2 → mzWp (e + 11) 0 1452 [mzR 148, mzR 14, mzR 0, mzI x3] [] m2 (mzQi q)) : mzWp (e + 11) 0 491 [mzR 148, mzR 14, mzR 0, mzI x3] [] μ (mzQi q) := by
  refine g0_491 _ _ ⟨B 1 (by decide) (by decide), B 2 (by decide) (by decide), fun z => ?_, fun z => ?_⟩
  · refine mz_scrI (p_hold (q := fun a c m2 => (∃ w2, RW m2 w2) ∧ a = c) (i := 0) R (fun a m2 w2 R2 => ⟨⟨w2, R2⟩, rfl⟩)) (fun a m1 e1 e2 hm => ?_)
    simp only [e1, e2]
    exact ⟨B 1 (by decide) (by decide), B 2 (by decide) (by decide), fun _ => mz_scrI hm (fun c m2 _ f2 hq => by
        obtain ⟨⟨w2, R2⟩, _⟩ := hq
        exact NX m2 w2 R2), fun z2 => absurd z z2⟩
  · refine mz_scrI (p_hold (q := fun a c m2 => (∃ w2, RW m2 w2) ∧ a = c) (i := 1) R (fun a m2 w2 R2 => ⟨⟨w2, R2⟩, rfl⟩)) (fun a m1 e1 e2 hm => ?_)
    simp only [e1, e2]
    exact ⟨B 1 (by decide) (by decide), B 2 (by decide) (by decide), fun z2 => absurd z2 z, fun _ => mz_scrI hm (fun c m2 _ f2 hq => by
        obtain ⟨⟨w2, R2⟩, _⟩ := hq
        exact NX m2 w2 R2)⟩
theorem lc_push {e : Nat} {q : Int → mzM → Prop} {x3 : Int} {μ : mzM} {w : Wd} (R : RW μ w) (hb : ∀ k j, -2147483648 ≤ μ k j ∧ μ k j < 2147483648) (B : LwB μ x3) (NX : ∀ m2 w2, RW m2 w2 → mzWp (e + 11) 0 1452 [mzR 148, mzR 14, mzR 0, mzI x3] [] m2 (mzQi q)) : mzWp (e + 11) 0 540 [mzR 148, mzR 14, mzR 0, mzI x3] [] μ (mzQi q) := by
  refine g0_540 _ _ ⟨B 1 (by decide) (by decide), B 2 (by decide) (by decide), ?_⟩
  refine mz_scrI (p_push (q := fun a c m2 => (∃ w2, RW m2 w2) ∧ a = c) R (fun a m2 w2 R2 => ⟨⟨w2, R2⟩, rfl⟩)) (fun a m1 e1 e2 hm => ?_)
  simp only [e1, e2]
  exact ⟨B 1 (by decide) (by decide), B 2 (by decide) (by decide), mz_scrI hm (fun c m2 _ f2 hq => by
    obtain ⟨⟨w2, R2⟩, _⟩ := hq
    exact NX m2 w2 R2)⟩
theorem lc_pushOf {e : Nat} {q : Int → mzM → Prop} {x3 : Int} {μ : mzM} {w : Wd} (R : RW μ w) (hb : ∀ k j, -2147483648 ≤ μ k j ∧ μ k j < 2147483648) (B : LwB μ x3) (NX : ∀ m2 w2, RW m2 w2 → mzWp (e + 11) 0 1452 [mzR 148, mzR 14, mzR 0, mzI x3] [] m2 (mzQi q)) : mzWp (e + 11) 0 573 [mzR 148, mzR 14, mzR 0, mzI x3] [] μ (mzQi q) := by
  refine g0_573 _ _ ⟨B 1 (by decide) (by decide), B 2 (by decide) (by decide), ?_⟩
  refine mz_scrI (p_pushOf (q := fun a c m2 => (∃ w2, RW m2 w2) ∧ a = c) R (fun a m2 w2 R2 => ⟨⟨w2, R2⟩, rfl⟩)) (fun a m1 e1 e2 hm => ?_)
  simp only [e1, e2]
  exact ⟨B 1 (by decide) (by decide), B 2 (by decide) (by decide), mz_scrI hm (fun c m2 _ f2 hq => by
    obtain ⟨⟨w2, R2⟩, _⟩ := hq
    exact NX m2 w2 R2)⟩
theorem lc_clear {e : Nat} {q : Int → mzM → Prop} {x3 : Int} {μ : mzM} {w : Wd} (R : RW μ w) (hb : ∀ k j, -2147483648 ≤ μ k j ∧ μ k j < 2147483648) (B : LwB μ x3) (NX : ∀ m2 w2, RW m2 w2 → mzWp (e + 11) 0 1452 [mzR 148, mzR 14, mzR 0, mzI x3] [] m2 (mzQi q)) : mzWp (e + 11) 0 606 [mzR 148, mzR 14, mzR 0, mzI x3] [] μ (mzQi q) := by
  refine g0_606 _ _ ?_
  refine mz_scrI (p_clear (q := fun a c m2 => (∃ w2, RW m2 w2) ∧ a = c) R (fun a m2 w2 R2 => ⟨⟨w2, R2⟩, rfl⟩)) (fun a m1 e1 e2 hm => ?_)
  exact mz_scrI hm (fun c m2 _ f2 hq => by
    obtain ⟨⟨w2, R2⟩, _⟩ := hq
    exact NX m2 w2 R2)
theorem lc_run {e : Nat} {q : Int → mzM → Prop} {x3 : Int} {μ : mzM} {w : Wd} (R : RW μ w) (hb : ∀ k j, -2147483648 ≤ μ k j ∧ μ k j < 2147483648) (B : LwB μ x3) (NX : ∀ m2 w2, RW m2 w2 → mzWp (e + 11) 0 1452 [mzR 148, mzR 14, mzR 0, mzI x3] [] m2 (mzQi q)) : mzWp (e + 11) 0 619 [mzR 148, mzR 14, mzR 0, mzI x3] [] μ (mzQi q) := by
  refine g0_619 _ _ ⟨B 1 (by decide) (by decide), B 2 (by decide) (by decide), ?_⟩
  refine mz_scrI (p_run (q := fun a c m2 => (∃ w2, RW m2 w2) ∧ a = c) R (fun a m2 w2 R2 => ⟨⟨w2, R2⟩, rfl⟩)) (fun a m1 e1 e2 hm => ?_)
  simp only [e1, e2]
  exact ⟨B 1 (by decide) (by decide), B 2 (by decide) (by decide), mz_scrI hm (fun c m2 _ f2 hq => by
    obtain ⟨⟨w2, R2⟩, _⟩ := hq
    exact NX m2 w2 R2)⟩
theorem lc_runOf {e : Nat} {q : Int → mzM → Prop} {x3 : Int} {μ : mzM} {w : Wd} (R : RW μ w) (hb : ∀ k j, -2147483648 ≤ μ k j ∧ μ k j < 2147483648) (B : LwB μ x3) (NX : ∀ m2 w2, RW m2 w2 → mzWp (e + 11) 0 1452 [mzR 148, mzR 14, mzR 0, mzI x3] [] m2 (mzQi q)) : mzWp (e + 11) 0 652 [mzR 148, mzR 14, mzR 0, mzI x3] [] μ (mzQi q) := by
  refine g0_652 _ _ ⟨B 1 (by decide) (by decide), B 2 (by decide) (by decide), B 3 (by decide) (by decide), ?_⟩
  refine mz_scrI (p_runOf (q := fun a c m2 => (∃ w2, RW m2 w2) ∧ a = c) R (fun a m2 w2 R2 => ⟨⟨w2, R2⟩, rfl⟩)) (fun a m1 e1 e2 hm => ?_)
  simp only [e1, e2]
  exact ⟨B 1 (by decide) (by decide), B 2 (by decide) (by decide), B 3 (by decide) (by decide), mz_scrI hm (fun c m2 _ f2 hq => by
    obtain ⟨⟨w2, R2⟩, _⟩ := hq
    exact NX m2 w2 R2)⟩
theorem lc_when {e : Nat} {q : Int → mzM → Prop} {x3 : Int} {μ : mzM} {w : Wd} (R : RW μ w) (hb : ∀ k j, -2147483648 ≤ μ k j ∧ μ k j < 2147483648) (B : LwB μ x3) (NX : ∀ m2 w2, RW m2 w2 → mzWp (e + 11) 0 1452 [mzR 148, mzR 14, mzR 0, mzI x3] [] m2 (mzQi q)) : mzWp (e + 11) 0 695 [mzR 148, mzR 14, mzR 0, mzI x3] [] μ (mzQi q) := by
  refine g0_695 _ _ ⟨B 1 (by decide) (by decide), ?_⟩
  refine mz_scrI (p_when (q := fun a c m2 => (∃ w2, RW m2 w2) ∧ a = c) R (fun a m2 w2 R2 => ⟨⟨w2, R2⟩, rfl⟩)) (fun a m1 e1 e2 hm => ?_)
  simp only [e1, e2]
  exact ⟨B 1 (by decide) (by decide), mz_scrI hm (fun c m2 _ f2 hq => by
    obtain ⟨⟨w2, R2⟩, _⟩ := hq
    exact NX m2 w2 R2)⟩
theorem lc_settles {e : Nat} {q : Int → mzM → Prop} {x3 : Int} {μ : mzM} {w : Wd} (R : RW μ w) (hb : ∀ k j, -2147483648 ≤ μ k j ∧ μ k j < 2147483648) (B : LwB μ x3) (NX : ∀ m2 w2, RW m2 w2 → mzWp (e + 11) 0 1452 [mzR 148, mzR 14, mzR 0, mzI x3] [] m2 (mzQi q)) : mzWp (e + 11) 0 718 [mzR 148, mzR 14, mzR 0, mzI x3] [] μ (mzQi q) := by
  refine g0_718 _ _ ?_
  refine mz_scrI (p_settles (q := fun a c m2 => (∃ w2, RW m2 w2) ∧ a = c) R (fun a m2 w2 R2 => ⟨⟨w2, R2⟩, rfl⟩)) (fun a m1 e1 e2 hm => ?_)
  exact mz_scrI hm (fun c m2 _ f2 hq => by
    obtain ⟨⟨w2, R2⟩, _⟩ := hq
    exact NX m2 w2 R2)
theorem lc_stand {e : Nat} {q : Int → mzM → Prop} {x3 : Int} {μ : mzM} {w : Wd} (R : RW μ w) (hb : ∀ k j, -2147483648 ≤ μ k j ∧ μ k j < 2147483648) (B : LwB μ x3) (NX : ∀ m2 w2, RW m2 w2 → mzWp (e + 11) 0 1452 [mzR 148, mzR 14, mzR 0, mzI x3] [] m2 (mzQi q)) : mzWp (e + 11) 0 731 [mzR 148, mzR 14, mzR 0, mzI x3] [] μ (mzQi q) := by
  refine g0_731 _ _ ⟨B 1 (by decide) (by decide), ?_⟩
  refine mz_scrI (p_stand (q := fun a c m2 => (∃ w2, RW m2 w2) ∧ a = c) R (fun a m2 w2 R2 => ⟨⟨w2, R2⟩, rfl⟩)) (fun a m1 e1 e2 hm => ?_)
  simp only [e1, e2]
  exact ⟨B 1 (by decide) (by decide), mz_scrI hm (fun c m2 _ f2 hq => by
    obtain ⟨⟨w2, R2⟩, _⟩ := hq
    exact NX m2 w2 R2)⟩
theorem lc_late {e : Nat} {q : Int → mzM → Prop} {x3 : Int} {μ : mzM} {w : Wd} (R : RW μ w) (hb : ∀ k j, -2147483648 ≤ μ k j ∧ μ k j < 2147483648) (B : LwB μ x3) (NX : ∀ m2 w2, RW m2 w2 → mzWp (e + 11) 0 1452 [mzR 148, mzR 14, mzR 0, mzI x3] [] m2 (mzQi q)) : mzWp (e + 11) 0 754 [mzR 148, mzR 14, mzR 0, mzI x3] [] μ (mzQi q) := by
  refine g0_754 _ _ ⟨B 1 (by decide) (by decide), ?_⟩
  refine mz_scrI (p_late (q := fun a c m2 => (∃ w2, RW m2 w2) ∧ a = c) R (fun a m2 w2 R2 => ⟨⟨w2, R2⟩, rfl⟩)) (fun a m1 e1 e2 hm => ?_)
  simp only [e1, e2]
  exact ⟨B 1 (by decide) (by decide), mz_scrI hm (fun c m2 _ f2 hq => by
    obtain ⟨⟨w2, R2⟩, _⟩ := hq
    exact NX m2 w2 R2)⟩
theorem lc_fewest {e : Nat} {q : Int → mzM → Prop} {x3 : Int} {μ : mzM} {w : Wd} (R : RW μ w) (hb : ∀ k j, -2147483648 ≤ μ k j ∧ μ k j < 2147483648) (B : LwB μ x3) (NX : ∀ m2 w2, RW m2 w2 → mzWp (e + 11) 0 1452 [mzR 148, mzR 14, mzR 0, mzI x3] [] m2 (mzQi q)) : mzWp (e + 11) 0 777 [mzR 148, mzR 14, mzR 0, mzI x3] [] μ (mzQi q) := by
  refine g0_777 _ _ ⟨B 1 (by decide) (by decide), ?_⟩
  refine mz_scrI (p_fewest (q := fun a c m2 => (∃ w2, RW m2 w2) ∧ a = c) R (fun a m2 w2 R2 => ⟨⟨w2, R2⟩, rfl⟩)) (fun a m1 e1 e2 hm => ?_)
  simp only [e1, e2]
  exact ⟨B 1 (by decide) (by decide), mz_scrI hm (fun c m2 _ f2 hq => by
    obtain ⟨⟨w2, R2⟩, _⟩ := hq
    exact NX m2 w2 R2)⟩
theorem lc_cheapest {e : Nat} {q : Int → mzM → Prop} {x3 : Int} {μ : mzM} {w : Wd} (R : RW μ w) (hb : ∀ k j, -2147483648 ≤ μ k j ∧ μ k j < 2147483648) (B : LwB μ x3) (NX : ∀ m2 w2, RW m2 w2 → mzWp (e + 11) 0 1452 [mzR 148, mzR 14, mzR 0, mzI x3] [] m2 (mzQi q)) : mzWp (e + 11) 0 800 [mzR 148, mzR 14, mzR 0, mzI x3] [] μ (mzQi q) := by
  refine g0_800 _ _ ⟨B 1 (by decide) (by decide), ?_⟩
  refine mz_scrI (p_cheapest (q := fun a c m2 => (∃ w2, RW m2 w2) ∧ a = c) R (fun a m2 w2 R2 => ⟨⟨w2, R2⟩, rfl⟩)) (fun a m1 e1 e2 hm => ?_)
  simp only [e1, e2]
  exact ⟨B 1 (by decide) (by decide), mz_scrI hm (fun c m2 _ f2 hq => by
    obtain ⟨⟨w2, R2⟩, _⟩ := hq
    exact NX m2 w2 R2)⟩
theorem lc_most {e : Nat} {q : Int → mzM → Prop} {x3 : Int} {μ : mzM} {w : Wd} (R : RW μ w) (hb : ∀ k j, -2147483648 ≤ μ k j ∧ μ k j < 2147483648) (B : LwB μ x3) (NX : ∀ m2 w2, RW m2 w2 → mzWp (e + 11) 0 1452 [mzR 148, mzR 14, mzR 0, mzI x3] [] m2 (mzQi q)) : mzWp (e + 11) 0 823 [mzR 148, mzR 14, mzR 0, mzI x3] [] μ (mzQi q) := by
  refine g0_823 _ _ ⟨B 1 (by decide) (by decide), B 2 (by decide) (by decide), ?_⟩
  refine mz_scrI (p_most (q := fun a c m2 => (∃ w2, RW m2 w2) ∧ True) R (fun a c m2 w2 R2 => ⟨⟨w2, R2⟩, trivial⟩)) (fun a m1 e1 e2 hm => ?_)
  simp only [e1, e2]
  exact ⟨B 1 (by decide) (by decide), B 2 (by decide) (by decide), mz_scrI hm (fun c m2 _ f2 hq => by
    obtain ⟨⟨w2, R2⟩, _⟩ := hq
    exact NX m2 w2 R2)⟩
theorem lc_must {e : Nat} {q : Int → mzM → Prop} {x3 : Int} {μ : mzM} {w : Wd} (R : RW μ w) (hb : ∀ k j, -2147483648 ≤ μ k j ∧ μ k j < 2147483648) (B : LwB μ x3) (NX : ∀ m2 w2, RW m2 w2 → mzWp (e + 11) 0 1452 [mzR 148, mzR 14, mzR 0, mzI x3] [] m2 (mzQi q)) : mzWp (e + 11) 0 856 [mzR 148, mzR 14, mzR 0, mzI x3] [] μ (mzQi q) := by
  refine g0_856 _ _ ?_
  refine mz_scrI (p_must (q := fun a c m2 => (∃ w2, RW m2 w2) ∧ a = c) R (fun a m2 w2 R2 => ⟨⟨w2, R2⟩, rfl⟩)) (fun a m1 e1 e2 hm => ?_)
  exact mz_scrI hm (fun c m2 _ f2 hq => by
    obtain ⟨⟨w2, R2⟩, _⟩ := hq
    exact NX m2 w2 R2)
theorem lc_order {e : Nat} {q : Int → mzM → Prop} {x3 : Int} {μ : mzM} {w : Wd} (R : RW μ w) (hb : ∀ k j, -2147483648 ≤ μ k j ∧ μ k j < 2147483648) (B : LwB μ x3) (NX : ∀ m2 w2, RW m2 w2 → mzWp (e + 11) 0 1452 [mzR 148, mzR 14, mzR 0, mzI x3] [] m2 (mzQi q)) : mzWp (e + 11) 0 869 [mzR 148, mzR 14, mzR 0, mzI x3] [] μ (mzQi q) := by
  refine g0_869 _ _ ⟨B 1 (by decide) (by decide), B 2 (by decide) (by decide), B 3 (by decide) (by decide), ?_⟩
  refine mz_scrI (p_order (q := fun a c m2 => (∃ w2, RW m2 w2) ∧ a = c) R (fun a m2 w2 R2 => ⟨⟨w2, R2⟩, rfl⟩)) (fun a m1 e1 e2 hm => ?_)
  simp only [e1, e2]
  exact ⟨B 1 (by decide) (by decide), B 2 (by decide) (by decide), B 3 (by decide) (by decide), mz_scrI hm (fun c m2 _ f2 hq => by
    obtain ⟨⟨w2, R2⟩, _⟩ := hq
    exact NX m2 w2 R2)⟩
theorem lc_stop {e : Nat} {q : Int → mzM → Prop} {x3 : Int} {μ : mzM} {w : Wd} (R : RW μ w) (hb : ∀ k j, -2147483648 ≤ μ k j ∧ μ k j < 2147483648) (B : LwB μ x3) (NX : ∀ m2 w2, RW m2 w2 → mzWp (e + 11) 0 1452 [mzR 148, mzR 14, mzR 0, mzI x3] [] m2 (mzQi q)) : mzWp (e + 11) 0 912 [mzR 148, mzR 14, mzR 0, mzI x3] [] μ (mzQi q) := by
  refine g0_912 _ _ ⟨B 1 (by decide) (by decide), B 2 (by decide) (by decide), ?_⟩
  refine mz_scrI (p_stop (q := fun a c m2 => (∃ w2, RW m2 w2) ∧ a = c) R (fun a m2 w2 R2 => ⟨⟨w2, R2⟩, rfl⟩)) (fun a m1 e1 e2 hm => ?_)
  simp only [e1, e2]
  exact ⟨B 1 (by decide) (by decide), B 2 (by decide) (by decide), mz_scrI hm (fun c m2 _ f2 hq => by
    obtain ⟨⟨w2, R2⟩, _⟩ := hq
    exact NX m2 w2 R2)⟩
theorem lc_near {e : Nat} {q : Int → mzM → Prop} {x3 : Int} {μ : mzM} {w : Wd} (R : RW μ w) (hb : ∀ k j, -2147483648 ≤ μ k j ∧ μ k j < 2147483648) (B : LwB μ x3) (NX : ∀ m2 w2, RW m2 w2 → mzWp (e + 11) 0 1452 [mzR 148, mzR 14, mzR 0, mzI x3] [] m2 (mzQi q)) : mzWp (e + 11) 0 945 [mzR 148, mzR 14, mzR 0, mzI x3] [] μ (mzQi q) := by
  refine g0_945 _ _ ⟨B 1 (by decide) (by decide), ?_⟩
  refine mz_scrI (p_near (q := fun a c m2 => (∃ w2, RW m2 w2) ∧ a = c) R (fun a m2 w2 R2 => ⟨⟨w2, R2⟩, rfl⟩)) (fun a m1 e1 e2 hm => ?_)
  simp only [e1, e2]
  exact ⟨B 1 (by decide) (by decide), mz_scrI hm (fun c m2 _ f2 hq => by
    obtain ⟨⟨w2, R2⟩, _⟩ := hq
    exact NX m2 w2 R2)⟩
theorem lc_look {e : Nat} {q : Int → mzM → Prop} {x3 : Int} {μ : mzM} {w : Wd} (R : RW μ w) (hb : ∀ k j, -2147483648 ≤ μ k j ∧ μ k j < 2147483648) (B : LwB μ x3) (NX : ∀ m2 w2, RW m2 w2 → mzWp (e + 11) 0 1452 [mzR 148, mzR 14, mzR 0, mzI x3] [] m2 (mzQi q)) : mzWp (e + 11) 0 968 [mzR 148, mzR 14, mzR 0, mzI x3] [] μ (mzQi q) := by
  refine g0_968 _ _ ?_
  refine mz_scrI (p_look (q := fun a c m2 => (∃ w2, RW m2 w2) ∧ a = c) R (fun a m2 w2 R2 => ⟨⟨w2, R2⟩, rfl⟩)) (fun a m1 e1 e2 hm => ?_)
  exact mz_scrI hm (fun c m2 _ f2 hq => by
    obtain ⟨⟨w2, R2⟩, _⟩ := hq
    exact NX m2 w2 R2)
theorem lc_edge {e : Nat} {q : Int → mzM → Prop} {x3 : Int} {μ : mzM} {w : Wd} (R : RW μ w) (hb : ∀ k j, -2147483648 ≤ μ k j ∧ μ k j < 2147483648) (B : LwB μ x3) (NX : ∀ m2 w2, RW m2 w2 → mzWp (e + 11) 0 1452 [mzR 148, mzR 14, mzR 0, mzI x3] [] m2 (mzQi q)) : mzWp (e + 11) 0 981 [mzR 148, mzR 14, mzR 0, mzI x3] [] μ (mzQi q) := by
  refine g0_981 _ _ ⟨B 1 (by decide) (by decide), B 2 (by decide) (by decide), ?_⟩
  refine mz_scrI (p_edge (q := fun a c m2 => (∃ w2, RW m2 w2) ∧ a = c) R (fun a m2 w2 R2 => ⟨⟨w2, R2⟩, rfl⟩)) (fun a m1 e1 e2 hm => ?_)
  simp only [e1, e2]
  exact ⟨B 1 (by decide) (by decide), B 2 (by decide) (by decide), mz_scrI hm (fun c m2 _ f2 hq => by
    obtain ⟨⟨w2, R2⟩, _⟩ := hq
    exact NX m2 w2 R2)⟩
theorem lc_likely {e : Nat} {q : Int → mzM → Prop} {x3 : Int} {μ : mzM} {w : Wd} (R : RW μ w) (hb : ∀ k j, -2147483648 ≤ μ k j ∧ μ k j < 2147483648) (B : LwB μ x3) (NX : ∀ m2 w2, RW m2 w2 → mzWp (e + 11) 0 1452 [mzR 148, mzR 14, mzR 0, mzI x3] [] m2 (mzQi q)) : mzWp (e + 11) 0 1014 [mzR 148, mzR 14, mzR 0, mzI x3] [] μ (mzQi q) := by
  refine g0_1014 _ _ ?_
  refine mz_scrJ (p_likely (q := fun a c m2 => (∃ w2, RW m2 w2) ∧ a = c) R (fun a m2 w2 R2 => ⟨⟨w2, R2⟩, rfl⟩)) (fun a m1 e1 e2 hm => ?_)
  exact mz_scrJ hm (fun c m2 _ f2 hq => by
    obtain ⟨⟨w2, R2⟩, _⟩ := hq
    exact NX m2 w2 R2)
theorem lc_century {e : Nat} {q : Int → mzM → Prop} {x3 : Int} {μ : mzM} {w : Wd} (R : RW μ w) (hb : ∀ k j, -2147483648 ≤ μ k j ∧ μ k j < 2147483648) (B : LwB μ x3) (NX : ∀ m2 w2, RW m2 w2 → mzWp (e + 11) 0 1452 [mzR 148, mzR 14, mzR 0, mzI x3] [] m2 (mzQi q)) : mzWp (e + 11) 0 1027 [mzR 148, mzR 14, mzR 0, mzI x3] [] μ (mzQi q) := by
  refine g0_1027 _ _ ⟨B 1 (by decide) (by decide), ?_⟩
  refine mz_scrI (p_century (q := fun a c m2 => (∃ w2, RW m2 w2) ∧ a = c) R (fun a m2 w2 R2 => ⟨⟨w2, R2⟩, rfl⟩)) (fun a m1 e1 e2 hm => ?_)
  simp only [e1, e2]
  exact ⟨B 1 (by decide) (by decide), mz_scrI hm (fun c m2 _ f2 hq => by
    obtain ⟨⟨w2, R2⟩, _⟩ := hq
    exact NX m2 w2 R2)⟩
theorem lc_seed {e : Nat} {q : Int → mzM → Prop} {x3 : Int} {μ : mzM} {w : Wd} (R : RW μ w) (hb : ∀ k j, -2147483648 ≤ μ k j ∧ μ k j < 2147483648) (B : LwB μ x3) (NX : ∀ m2 w2, RW m2 w2 → mzWp (e + 11) 0 1452 [mzR 148, mzR 14, mzR 0, mzI x3] [] m2 (mzQi q)) : mzWp (e + 11) 0 1050 [mzR 148, mzR 14, mzR 0, mzI x3] [] μ (mzQi q) := by
  refine g0_1050 _ _ ⟨B 1 (by decide) (by decide), ?_⟩
  refine mz_scrI (p_seed (q := fun a c m2 => (∃ w2, RW m2 w2) ∧ a = c) (hb _ _) R (fun a m2 w2 R2 => ⟨⟨w2, R2⟩, rfl⟩)) (fun a m1 e1 e2 hm => ?_)
  simp only [e1, e2]
  exact ⟨B 1 (by decide) (by decide), mz_scrI hm (fun c m2 _ f2 hq => by
    obtain ⟨⟨w2, R2⟩, _⟩ := hq
    exact NX m2 w2 R2)⟩
theorem lc_game {e : Nat} {q : Int → mzM → Prop} {x3 : Int} {μ : mzM} {w : Wd} (R : RW μ w) (hb : ∀ k j, -2147483648 ≤ μ k j ∧ μ k j < 2147483648) (B : LwB μ x3) (NX : ∀ m2 w2, RW m2 w2 → mzWp (e + 11) 0 1452 [mzR 148, mzR 14, mzR 0, mzI x3] [] m2 (mzQi q)) : mzWp (e + 11) 0 1073 [mzR 148, mzR 14, mzR 0, mzI x3] [] μ (mzQi q) := by
  refine g0_1073 _ _ ⟨B 1 (by decide) (by decide), B 2 (by decide) (by decide), ?_⟩
  refine mz_scrI (p_game (q := fun a c m2 => (∃ w2, RW m2 w2) ∧ a = c) R (fun a m2 w2 R2 => ⟨⟨w2, R2⟩, rfl⟩)) (fun a m1 e1 e2 hm => ?_)
  simp only [e1, e2]
  exact ⟨B 1 (by decide) (by decide), B 2 (by decide) (by decide), mz_scrI hm (fun c m2 _ f2 hq => by
    obtain ⟨⟨w2, R2⟩, _⟩ := hq
    exact NX m2 w2 R2)⟩
theorem lc_first {e : Nat} {q : Int → mzM → Prop} {x3 : Int} {μ : mzM} {w : Wd} (R : RW μ w) (hb : ∀ k j, -2147483648 ≤ μ k j ∧ μ k j < 2147483648) (B : LwB μ x3) (NX : ∀ m2 w2, RW m2 w2 → mzWp (e + 11) 0 1452 [mzR 148, mzR 14, mzR 0, mzI x3] [] m2 (mzQi q)) : mzWp (e + 11) 0 1106 [mzR 148, mzR 14, mzR 0, mzI x3] [] μ (mzQi q) := by
  refine g0_1106 _ _ ⟨B 1 (by decide) (by decide), ?_⟩
  refine mz_scrI (p_first (q := fun a c m2 => (∃ w2, RW m2 w2) ∧ a = c) R (fun a m2 w2 R2 => ⟨⟨w2, R2⟩, rfl⟩)) (fun a m1 e1 e2 hm => ?_)
  simp only [e1, e2]
  exact ⟨B 1 (by decide) (by decide), mz_scrI hm (fun c m2 _ f2 hq => by
    obtain ⟨⟨w2, R2⟩, _⟩ := hq
    exact NX m2 w2 R2)⟩
theorem lc_judge {e : Nat} {q : Int → mzM → Prop} {x3 : Int} {μ : mzM} {w : Wd} (R : RW μ w) (hb : ∀ k j, -2147483648 ≤ μ k j ∧ μ k j < 2147483648) (B : LwB μ x3) (NX : ∀ m2 w2, RW m2 w2 → mzWp (e + 11) 0 1452 [mzR 148, mzR 14, mzR 0, mzI x3] [] m2 (mzQi q)) : mzWp (e + 11) 0 1129 [mzR 148, mzR 14, mzR 0, mzI x3] [] μ (mzQi q) := by
  refine g0_1129 _ _ ⟨B 1 (by decide) (by decide), ?_⟩
  refine mz_scrI (p_judge (q := fun a c m2 => (∃ w2, RW m2 w2) ∧ a = c) R (fun a m2 w2 R2 => ⟨⟨w2, R2⟩, rfl⟩)) (fun a m1 e1 e2 hm => ?_)
  simp only [e1, e2]
  exact ⟨B 1 (by decide) (by decide), mz_scrI hm (fun c m2 _ f2 hq => by
    obtain ⟨⟨w2, R2⟩, _⟩ := hq
    exact NX m2 w2 R2)⟩
theorem lc_spot {e : Nat} {q : Int → mzM → Prop} {x3 : Int} {μ : mzM} {w : Wd} (R : RW μ w) (hb : ∀ k j, -2147483648 ≤ μ k j ∧ μ k j < 2147483648) (B : LwB μ x3) (NX : ∀ m2 w2, RW m2 w2 → mzWp (e + 11) 0 1452 [mzR 148, mzR 14, mzR 0, mzI x3] [] m2 (mzQi q)) : mzWp (e + 11) 0 1152 [mzR 148, mzR 14, mzR 0, mzI x3] [] μ (mzQi q) := by
  refine g0_1152 _ _ ⟨B 1 (by decide) (by decide), B 2 (by decide) (by decide), ?_⟩
  refine mz_scrI (p_spot (q := fun a c m2 => (∃ w2, RW m2 w2) ∧ a = c) R (fun a m2 w2 R2 => ⟨⟨w2, R2⟩, rfl⟩)) (fun a m1 e1 e2 hm => ?_)
  simp only [e1, e2]
  exact ⟨B 1 (by decide) (by decide), B 2 (by decide) (by decide), mz_scrI hm (fun c m2 _ f2 hq => by
    obtain ⟨⟨w2, R2⟩, _⟩ := hq
    exact NX m2 w2 R2)⟩
theorem lc_as {e : Nat} {q : Int → mzM → Prop} {x3 : Int} {μ : mzM} {w : Wd} (R : RW μ w) (hb : ∀ k j, -2147483648 ≤ μ k j ∧ μ k j < 2147483648) (B : LwB μ x3) (NX : ∀ m2 w2, RW m2 w2 → mzWp (e + 11) 0 1452 [mzR 148, mzR 14, mzR 0, mzI x3] [] m2 (mzQi q)) : mzWp (e + 11) 0 1185 [mzR 148, mzR 14, mzR 0, mzI x3] [] μ (mzQi q) := by
  refine g0_1185 _ _ ⟨B 1 (by decide) (by decide), B 2 (by decide) (by decide), ?_⟩
  refine mz_scrI (p_as (q := fun a c m2 => (∃ w2, RW m2 w2) ∧ a = c) R (fun a m2 w2 R2 => ⟨⟨w2, R2⟩, rfl⟩)) (fun a m1 e1 e2 hm => ?_)
  simp only [e1, e2]
  exact ⟨B 1 (by decide) (by decide), B 2 (by decide) (by decide), mz_scrI hm (fun c m2 _ f2 hq => by
    obtain ⟨⟨w2, R2⟩, _⟩ := hq
    exact NX m2 w2 R2)⟩
theorem lc_sheet {e : Nat} {q : Int → mzM → Prop} {x3 : Int} {μ : mzM} {w : Wd} (R : RW μ w) (hb : ∀ k j, -2147483648 ≤ μ k j ∧ μ k j < 2147483648) (B : LwB μ x3) (NX : ∀ m2 w2, RW m2 w2 → mzWp (e + 11) 0 1452 [mzR 148, mzR 14, mzR 0, mzI x3] [] m2 (mzQi q)) : mzWp (e + 11) 0 1218 [mzR 148, mzR 14, mzR 0, mzI x3] [] μ (mzQi q) := by
  refine g0_1218 _ _ ⟨B 1 (by decide) (by decide), B 2 (by decide) (by decide), B 3 (by decide) (by decide), ?_⟩
  refine mz_scrI (p_sheet (q := fun a c m2 => (∃ w2, RW m2 w2) ∧ a = c) R (fun a m2 w2 R2 => ⟨⟨w2, R2⟩, rfl⟩)) (fun a m1 e1 e2 hm => ?_)
  simp only [e1, e2]
  exact ⟨B 1 (by decide) (by decide), B 2 (by decide) (by decide), B 3 (by decide) (by decide), mz_scrI hm (fun c m2 _ f2 hq => by
    obtain ⟨⟨w2, R2⟩, _⟩ := hq
    exact NX m2 w2 R2)⟩
theorem lc_write {e : Nat} {q : Int → mzM → Prop} {x3 : Int} {μ : mzM} {w : Wd} (R : RW μ w) (hb : ∀ k j, -2147483648 ≤ μ k j ∧ μ k j < 2147483648) (B : LwB μ x3) (NX : ∀ m2 w2, RW m2 w2 → mzWp (e + 11) 0 1452 [mzR 148, mzR 14, mzR 0, mzI x3] [] m2 (mzQi q)) : mzWp (e + 11) 0 1261 [mzR 148, mzR 14, mzR 0, mzI x3] [] μ (mzQi q) := by
  refine g0_1261 _ _ ⟨B 1 (by decide) (by decide), B 2 (by decide) (by decide), B 3 (by decide) (by decide), ?_⟩
  refine mz_scrI (p_write (q := fun a c m2 => (∃ w2, RW m2 w2) ∧ a = c) R (fun a m2 w2 R2 => ⟨⟨w2, R2⟩, rfl⟩)) (fun a m1 e1 e2 hm => ?_)
  simp only [e1, e2]
  exact ⟨B 1 (by decide) (by decide), B 2 (by decide) (by decide), B 3 (by decide) (by decide), mz_scrI hm (fun c m2 _ f2 hq => by
    obtain ⟨⟨w2, R2⟩, _⟩ := hq
    exact NX m2 w2 R2)⟩
theorem lc_copy {e : Nat} {q : Int → mzM → Prop} {x3 : Int} {μ : mzM} {w : Wd} (R : RW μ w) (hb : ∀ k j, -2147483648 ≤ μ k j ∧ μ k j < 2147483648) (B : LwB μ x3) (NX : ∀ m2 w2, RW m2 w2 → mzWp (e + 11) 0 1452 [mzR 148, mzR 14, mzR 0, mzI x3] [] m2 (mzQi q)) : mzWp (e + 11) 0 1304 [mzR 148, mzR 14, mzR 0, mzI x3] [] μ (mzQi q) := by
  refine g0_1304 _ _ ⟨B 1 (by decide) (by decide), B 2 (by decide) (by decide), B 3 (by decide) (by decide), B 4 (by decide) (by decide), B 5 (by decide) (by decide), ?_⟩
  refine mz_scrI (p_copy (q := fun a c m2 => (∃ w2, RW m2 w2) ∧ a = c) ⟨hb _ _, hb _ _⟩ R (fun a m2 w2 R2 => ⟨⟨w2, R2⟩, rfl⟩)) (fun a m1 e1 e2 hm => ?_)
  simp only [e1, e2]
  exact ⟨B 1 (by decide) (by decide), B 2 (by decide) (by decide), B 3 (by decide) (by decide), B 4 (by decide) (by decide), B 5 (by decide) (by decide), mz_scrI hm (fun c m2 _ f2 hq => by
    obtain ⟨⟨w2, R2⟩, _⟩ := hq
    exact NX m2 w2 R2)⟩
theorem lc_image {e : Nat} {q : Int → mzM → Prop} {x3 : Int} {μ : mzM} {w : Wd} (R : RW μ w) (hb : ∀ k j, -2147483648 ≤ μ k j ∧ μ k j < 2147483648) (B : LwB μ x3) (NX : ∀ m2 w2, RW m2 w2 → mzWp (e + 11) 0 1452 [mzR 148, mzR 14, mzR 0, mzI x3] [] m2 (mzQi q)) : mzWp (e + 11) 0 1367 [mzR 148, mzR 14, mzR 0, mzI x3] [] μ (mzQi q) := by
  refine g0_1367 _ _ ?_
  refine mz_scrI (p_image (q := fun a c m2 => (∃ w2, RW m2 w2) ∧ a = c) R (fun a m2 w2 R2 => ⟨⟨w2, R2⟩, rfl⟩)) (fun a m1 e1 e2 hm => ?_)
  exact mz_scrI hm (fun c m2 _ f2 hq => by
    obtain ⟨⟨w2, R2⟩, _⟩ := hq
    exact NX m2 w2 R2)
theorem lc_undo {e : Nat} {q : Int → mzM → Prop} {x3 : Int} {μ : mzM} {w : Wd} (R : RW μ w) (hb : ∀ k j, -2147483648 ≤ μ k j ∧ μ k j < 2147483648) (B : LwB μ x3) (NX : ∀ m2 w2, RW m2 w2 → mzWp (e + 11) 0 1452 [mzR 148, mzR 14, mzR 0, mzI x3] [] m2 (mzQi q)) : mzWp (e + 11) 0 1380 [mzR 148, mzR 14, mzR 0, mzI x3] [] μ (mzQi q) := by
  refine g0_1380 _ _ ?_
  refine mz_scrI (p_undo (q := fun a c m2 => (∃ w2, RW m2 w2) ∧ a = c) R (fun a m2 w2 R2 => ⟨⟨w2, R2⟩, rfl⟩)) (fun a m1 e1 e2 hm => ?_)
  exact mz_scrI hm (fun c m2 _ f2 hq => by
    obtain ⟨⟨w2, R2⟩, _⟩ := hq
    exact NX m2 w2 R2)
theorem lc_tear {e : Nat} {q : Int → mzM → Prop} {x3 : Int} {μ : mzM} {w : Wd} (R : RW μ w) (hb : ∀ k j, -2147483648 ≤ μ k j ∧ μ k j < 2147483648) (B : LwB μ x3) (NX : ∀ m2 w2, RW m2 w2 → mzWp (e + 11) 0 1452 [mzR 148, mzR 14, mzR 0, mzI x3] [] m2 (mzQi q)) : mzWp (e + 11) 0 1393 [mzR 148, mzR 14, mzR 0, mzI x3] [] μ (mzQi q) := by
  refine g0_1393 _ _ ?_
  refine mz_scrI (p_tear (q := fun a c m2 => (∃ w2, RW m2 w2) ∧ a = c) R (fun a m2 w2 R2 => ⟨⟨w2, R2⟩, rfl⟩)) (fun a m1 e1 e2 hm => ?_)
  exact mz_scrI hm (fun c m2 _ f2 hq => by
    obtain ⟨⟨w2, R2⟩, _⟩ := hq
    exact NX m2 w2 R2)
theorem lc_count {e : Nat} {q : Int → mzM → Prop} {x3 : Int} {μ : mzM} {w : Wd} (R : RW μ w) (hb : ∀ k j, -2147483648 ≤ μ k j ∧ μ k j < 2147483648) (B : LwB μ x3) (NX : ∀ m2 w2, RW m2 w2 → mzWp (e + 11) 0 1452 [mzR 148, mzR 14, mzR 0, mzI x3] [] m2 (mzQi q)) : mzWp (e + 11) 0 1406 [mzR 148, mzR 14, mzR 0, mzI x3] [] μ (mzQi q) := by
  refine g0_1406 _ _ ⟨B 1 (by decide) (by decide), ?_⟩
  refine mz_scrI (p_count (q := fun a c m2 => (∃ w2, RW m2 w2) ∧ a = c) R (fun a m2 w2 R2 => ⟨⟨w2, R2⟩, rfl⟩)) (fun a m1 e1 e2 hm => ?_)
  simp only [e1, e2]
  exact ⟨B 1 (by decide) (by decide), mz_scrI hm (fun c m2 _ f2 hq => by
    obtain ⟨⟨w2, R2⟩, e⟩ := hq
    exact ⟨fun _ => NX m2 w2 R2, fun z => absurd e z⟩)⟩
theorem lc_status {e : Nat} {q : Int → mzM → Prop} {x3 : Int} {μ : mzM} {w : Wd} (R : RW μ w) (hb : ∀ k j, -2147483648 ≤ μ k j ∧ μ k j < 2147483648) (B : LwB μ x3) (NX : ∀ m2 w2, RW m2 w2 → mzWp (e + 11) 0 1452 [mzR 148, mzR 14, mzR 0, mzI x3] [] m2 (mzQi q)) : mzWp (e + 11) 0 1429 [mzR 148, mzR 14, mzR 0, mzI x3] [] μ (mzQi q) := by
  refine g0_1429 _ _ ⟨B 1 (by decide) (by decide), ?_⟩
  refine mz_scrI (p_status (q := fun a c m2 => (∃ w2, RW m2 w2) ∧ True) R (fun a c m2 w2 R2 => ⟨⟨w2, R2⟩, trivial⟩)) (fun a m1 e1 e2 hm => ?_)
  simp only [e1, e2]
  exact ⟨B 1 (by decide) (by decide), mz_scrI hm (fun c m2 _ f2 hq => by
    obtain ⟨⟨w2, R2⟩, _⟩ := hq
    exact NX m2 w2 R2)⟩
theorem lw_b {μ : mzM} {x3 : Int} {n : Nat} (hn : μ 149 0 = n) (h31 : μ 149 0 < 2147483648) (h0 : 0 ≤ x3) (hx : x3 ≤ mzW (μ 149 0 - 6)) : LwB μ x3 ∧ ((0 : Int) ≤ x3 ∧ x3 < μ 149 0) ∧ mzW (x3 + 6) = x3 + 6 ∧ x3 + 6 < 2147483648 := by
  rw [wid (by omega) (by omega)] at hx
  refine ⟨fun k k1 k2 => ?_, by omega, wid (by omega) (by omega), by omega⟩
  rw [wid (by omega) (by omega)]
  omega
theorem lw_0 {μ : mzM} {x3 : Int} {n : Nat} (hn : μ 149 0 = n) (h31 : μ 149 0 < 2147483648) (h0 : 2147483648 ≤ x3) (hx : x3 ≤ mzW (μ 149 0 - 6)) : False := by
  rw [wid (by omega) (by omega)] at hx
  omega
theorem lw_loop {e : Nat} : ∀ (c : Nat) (x3 : Int) (μ : mzM) (w : Wd), RW μ w → 0 ≤ x3 → 2147483648 ≤ x3 + 6 * (c : Int) → mzWp (e + 11) 0 18 [mzR 148, mzR 14, mzR 0, mzI x3] [] μ (mzQi fun r _ => r = 1) := by
  intro c
  induction c with
  | zero =>
    intro x3 μ w R h0 hc
    exact mz_know fun hb hn => by
      obtain ⟨n, hn⟩ := hn
      exact g0_18 _ _ ⟨fun _ => ⟨or10, rfl⟩, fun z => (lw_0 hn (hb 149 0).2 (by omega) z).elim⟩
  | succ c ih =>
    intro x3 μ w R h0 hc
    exact mz_know fun hb hn => by
      obtain ⟨n, hn⟩ := hn
      refine g0_18 _ _ ⟨fun _ => ⟨or10, rfl⟩, fun z => ?_⟩
      obtain ⟨B, b0, e6, l6⟩ := lw_b hn (hb 149 0).2 h0 z
      have h6 : 0 ≤ x3 + 6 := by omega
      have h7 : 2147483648 ≤ x3 + 6 + 6 * (c : Int) := by omega
      have NX : ∀ m2 w2, RW m2 w2 → mzWp (e + 11) 0 1452 [mzR 148, mzR 14, mzR 0, mzI x3] [] m2 (mzQi fun r _ => r = 1) := fun m2 w2 R2 => g0_1452 _ _ (by rw [e6]; exact ih (x3 + 6) m2 w2 R2 h6 h7)
      exact ⟨b0, ⟨fun _ => lc_feed R hb B NX, fun _ => lc_wipe R hb B NX, fun _ => lc_world R hb B NX, fun _ => lc_placeOf R hb B NX, fun _ => lc_change R hb B NX, fun _ => lc_step R hb B NX, fun _ => lc_tie R hb B NX, fun _ => lc_tieOf R hb B NX, fun _ => lc_cut R hb B NX, fun _ => lc_hold R hb B NX, fun _ => lc_push R hb B NX, fun _ => lc_pushOf R hb B NX, fun _ => lc_clear R hb B NX, fun _ => lc_run R hb B NX, fun _ => lc_runOf R hb B NX, fun _ => lc_when R hb B NX, fun _ => lc_settles R hb B NX, fun _ => lc_stand R hb B NX, fun _ => lc_late R hb B NX, fun _ => lc_fewest R hb B NX, fun _ => lc_cheapest R hb B NX, fun _ => lc_most R hb B NX, fun _ => lc_must R hb B NX, fun _ => lc_order R hb B NX, fun _ => lc_stop R hb B NX, fun _ => lc_near R hb B NX, fun _ => lc_look R hb B NX, fun _ => lc_edge R hb B NX, fun _ => lc_likely R hb B NX, fun _ => lc_century R hb B NX, fun _ => lc_seed R hb B NX, fun _ => lc_game R hb B NX, fun _ => lc_first R hb B NX, fun _ => lc_judge R hb B NX, fun _ => lc_spot R hb B NX, fun _ => lc_as R hb B NX, fun _ => lc_sheet R hb B NX, fun _ => lc_write R hb B NX, fun _ => lc_copy R hb B NX, fun _ => lc_image R hb B NX, fun _ => lc_undo R hb B NX, fun _ => lc_tear R hb B NX, fun _ => lc_count R hb B NX, fun _ => lc_status R hb B NX, trivial⟩, fun _ => NX μ w R⟩
