/-! THE CLASS'S TIES, its text -/
theorem CW.tie {m : mzM} {w : Wd} {f t : Nat} {v : Int} (h : CW m 2 w) (hN : wN w ≤ 12) (hf : f < 12) (ht : t < 12) : CW (mzS (mzS m 28 1 (wE w + 1)) (112 + f) t v) 2 (tieW w f t v) := by
  obtain ⟨h0, h1, h2, h3, h4, h5, h6, h7, h8⟩ := h
  refine ⟨?_, ?_, ?_, ?_, ?_, fun p t' hp ht' => ?_, fun f' t' hf' ht' => ?_, fun i hi => ⟨?_, ?_⟩, fun i hi => ?_⟩
  · rw [S_ne (by omega), S_ne (by omega)]; exact h0
  · rw [S_ne (by omega)]; exact S_eq
  · rw [S_ne (by omega), S_ne (by omega)]; exact h2
  · rw [S_ne (by omega), S_ne (by omega)]; exact h3
  · rw [S_ne (by omega), S_ne (by omega)]; exact h4
  · have hp2 : p < wN w := hp
    rw [S_ne (by omega), S_ne (by omega)]; exact h5 p t' hp ht'
  · show _ = if f' = f ∧ t' = t then v else wP w f' t'
    by_cases e : f' = f ∧ t' = t
    · rw [if_pos e, e.1, e.2]
      show mzS _ (112 + f) t v (112 + f) t = v
      exact S_eq
    · rw [if_neg e, S_ne (by omega), S_ne (by omega)]; exact h6 f' t' hf' ht'
  · rw [S_ne (by omega), S_ne (by omega)]; exact (h7 i hi).1
  · rw [S_ne (by omega), S_ne (by omega)]; exact (h7 i hi).2
  · rw [S_ne (by omega), S_ne (by omega)]; exact h8 i hi
theorem k_readTie {d : Nat} {q : Int → mzM → Prop} {b : Nat → Int} {len p : Nat} {w : Wd} {μ : mzM} (hl : len ≤ 120) (hp : p ≤ len) (ht : TpC μ b len) (hk : TkC μ (tk b len p)) (hw : CW μ 2 w) (hW : WOk w)
    (hok : (tieS b len w p).1 = true → ∀ μ', XdC μ μ' → CW μ' 2 (tieS b len w p).2.2 → TkC μ' (tk b len (tieS b len w p).2.1) → q 1 μ')
    (hno : (tieS b len w p).1 = false → ∀ μ', XdC μ μ' → μ' 23 3 = (tk b len (tieS b len w p).2.1).2.1 → q 0 μ') : mzCl (d + 3) 118 [mzR 23, mzR 28] μ (mzQi q) := by
  have e1 : ∀ n : Nat, n ≤ 12 → mzW ((n : Int) - 1) = (n : Int) - 1 := fun n h => wid (by omega) (by omega)
  have hn := hW.1
  have hE : 0 ≤ wE w ∧ wE w ≤ 40 := ⟨by have := hW.2.1; omega, hW.2.2.1⟩
  have no : ∀ {m : mzM} {P : Nat}, tieS b len w p = (false, P, w) → XdC μ m → m 23 3 = (tk b len P).2.1 → ((0 : Int) = 0 ∨ (0 : Int) = 1) ∧ q 0 m := fun e x z => ⟨or00, hno (by rw [e]) _ x (by rw [e]; exact z)⟩
  have bd := tk_bd (b := b) hp
  have bd1 := tk_bd (b := b) (len := len) (pos := nx b len p) bd.2.2.1
  have bd2 := tk_bd (b := b) (len := len) (pos := nx b len (nx b len p)) bd1.2.2.1
  have bd3 := tk_bd (b := b) (len := len) (pos := nx b len (nx b len (nx b len p))) bd2.2.2.1
  have bd4 := tk_bd (b := b) (len := len) (pos := nx b len (nx b len (nx b len (nx b len p)))) bd3.2.2.1
  have h28 : μ 28 0 = wN w := hw.1
  have h281 : μ 28 1 = wE w := hw.2.1
  refine g118_e _ ?_
  rw [h28, e1 _ hn]
  refine k_isNumber hk (fun y1 y2 y3 y4 => ⟨fun z => absurd z (by decide), fun _ => ⟨fun z => ?_, fun z => no (P := p) ?_ XdC.rf hk.2.1⟩⟩) (fun y => ⟨fun _ => no (P := p) ?_ XdC.rf hk.2.1, fun z => absurd rfl z⟩)
  · have c0 : wE w ≠ 40 ∧ (tk b len p).1 = 2 ∧ tv b len p < wN w := ⟨by omega, y1, by show (tk b len p).2.2.2 < _; omega⟩
    have hf : (tk b len p).2.2.2 < 12 := Nat.lt_of_lt_of_le c0.2.2 hn
    refine k_next (pos := nx b len p) hl bd.2.2.1 hk.2.2.1 ht (fun m1 x1 k1 => ?_)
    have w1 := hw.x x1 hn
    have x1' : XdC μ m1 := x1.d
    refine k_isWord (d := d + 1) (by omega) hl (x1'.tp ht) k1 bd1.2.1 bd1.2.2.1 (fun u => ⟨fun _ => ?_, fun z => absurd z (by decide)⟩) (fun u => ⟨fun z => absurd rfl z, fun _ => no (P := nx b len p) (by rw [tieS, if_pos c0, if_neg (by rw [u]; decide)]) x1' k1.2.1⟩)
    rw [y4]
    refine g118_45 _ _ ?_
    refine k_next (pos := nx b len (nx b len p)) hl bd1.2.2.1 k1.2.2.1 (x1'.tp ht) (fun m2 x2 k2 => ?_)
    have x2' : XdC μ m2 := x1'.tr x2.d
    have w2 := w1.x x2 hn
    rw [show m2 28 0 = wN w from w2.1, e1 _ hn]
    have F : ¬ ((tk b len (nx b len (nx b len p))).1 = 2 ∧ tv b len (nx b len (nx b len p)) < wN w ∧ tv b len (nx b len (nx b len p)) ≠ tv b len p ∧ wP w (tv b len p) (tv b len (nx b len (nx b len p))) = 0) → tieS b len w p = (false, nx b len (nx b len p), w) := fun c => by rw [tieS, if_pos c0, if_pos u, if_neg c]
    refine k_isNumber k2 (fun a1 a2 a3 a4 => ⟨fun z => absurd z (by decide), fun _ => ⟨fun c3 => no (F (fun c' => c'.2.2.1 (Int.ofNat.inj (a4.symm.trans c3)))) x2' k2.2.1, fun c3 => ⟨by omega, ?_⟩⟩⟩) (fun y => ⟨fun _ => no (F (fun c' => y ⟨c'.1, Int.natCast_nonneg _, Int.le_sub_one_of_lt (Int.ofNat_lt.mpr c'.2.1)⟩)) x2' k2.2.1, fun z => absurd rfl z⟩)
    have ht12 : tv b len (nx b len (nx b len p)) < 12 := by show (tk b len _).2.2.2 < 12; omega
    have htn : tv b len (nx b len (nx b len p)) < wN w := by show (tk b len _).2.2.2 < _; omega
    have ep : m2 (112 + (tk b len p).2.2.2) (tk b len (nx b len (nx b len p))).2.2.2 = wP w (tv b len p) (tv b len (nx b len (nx b len p))) := w2.2.2.2.2.2.2.1 _ _ hf ht12
    rw [a4, Int.toNat_natCast, Int.toNat_natCast]
    refine ⟨⟨hf, by omega, by omega⟩, fun c4 => ?_, fun c4 => no (F (fun c' => c4 (ep.trans c'.2.2.2))) x2' k2.2.1⟩
    have c5 : (tk b len (nx b len (nx b len p))).1 = 2 ∧ tv b len (nx b len (nx b len p)) < wN w ∧ tv b len (nx b len (nx b len p)) ≠ tv b len p ∧ wP w (tv b len p) (tv b len (nx b len (nx b len p))) = 0 := ⟨a1, htn, fun z => c3 (a4.trans (congrArg Int.ofNat z)), ep.symm.trans c4⟩
    refine g118_87 _ _ ?_
    refine k_next (pos := nx b len (nx b len (nx b len p))) hl bd2.2.2.1 k2.2.2.1 (x2'.tp ht) (fun m3 x3 k3 => ?_)
    have x3' : XdC μ m3 := x2'.tr x3.d
    have w3 := w2.x x3 hn
    refine k_isWord (d := d + 1) (by omega) hl (x3'.tp ht) k3 bd3.2.1 bd3.2.2.1 (fun u2 => ⟨fun _ => ?_, fun z => absurd z (by decide)⟩) (fun u2 => ⟨fun z => absurd rfl z, fun _ => no (P := nx b len (nx b len (nx b len p))) (by rw [tieS, if_pos c0, if_pos u, if_pos c5, if_neg (by rw [u2]; decide)]) x3' k3.2.1⟩)
    refine k_next (pos := nx b len (nx b len (nx b len (nx b len p)))) hl bd3.2.2.1 k3.2.2.1 (x3'.tp ht) (fun m4 x4 k4 => ?_)
    have x4' : XdC μ m4 := x3'.tr x4.d
    have w4 := w3.x x4 hn
    refine k_isNumber k4 (fun b1 b2 b3 b4 => ⟨fun _ => ?_, fun z => absurd z (by decide)⟩) (fun y => ⟨fun z => absurd rfl z, fun _ => no (P := nx b len (nx b len (nx b len (nx b len p)))) (by rw [tieS, if_pos c0, if_pos u, if_pos c5, if_pos u2, if_neg (fun c => y ⟨c.1, Int.ofNat_le.mpr c.2.1, Int.ofNat_le.mpr c.2.2⟩)]) x4' k4.2.1⟩)
    have e9 : tieS b len w p = (true, nx b len (nx b len (nx b len (nx b len (nx b len p)))), tieW w (tv b len p) (tv b len (nx b len (nx b len p))) (tv b len (nx b len (nx b len (nx b len (nx b len p)))))) := by rw [tieS, if_pos c0, if_pos u, if_pos c5, if_pos u2, if_pos ⟨b1, by show 1 ≤ (tk b len _).2.2.2; omega, by show (tk b len _).2.2.2 ≤ 99; omega⟩]
    rw [e9] at hok
    rw [a4, b4]
    have ep4 : m4 (112 + (tk b len p).2.2.2) (tk b len (nx b len (nx b len p))).2.2.2 = 0 := (w4.2.2.2.2.2.2.1 _ _ hf ht12).trans c5.2.2.2
    have h41 : m4 28 1 = wE w := w4.2.1
    refine g96d_e _ _ _ _ ⟨by omega, ?_⟩
    rw [Int.toNat_natCast, Int.toNat_natCast]
    refine ⟨⟨hf, by omega, by omega⟩, fun z => absurd ep4 z, fun _ => ⟨by omega, ⟨hf, by omega, by omega⟩, ?_⟩⟩
    rw [h41, wid (by omega) (by omega)]
    have x5 : XdC μ (mzS (mzS m4 28 1 (wE w + 1)) (112 + (tk b len p).2.2.2) (tk b len (nx b len (nx b len p))).2.2.2 ((tk b len (nx b len (nx b len (nx b len (nx b len p))))).2.2.2 : Int)) := (x4'.st (by omega)).st (by omega)
    refine k_next (pos := nx b len (nx b len (nx b len (nx b len (nx b len p))))) hl bd4.2.2.1 (by rw [S_ne (by omega), S_ne (by omega)]; exact k4.2.2.1) (x5.tp ht) (fun m5 x6 k5 => ⟨or10, hok rfl m5 (x5.tr x6.d) ((w4.tie hn hf ht12).x x6 hn) k5⟩)
  · rw [tieS, if_neg (fun c => c.1 (by omega))]
  · rw [tieS, if_neg (fun c => y ⟨c.2.1, Int.natCast_nonneg _, Int.le_sub_one_of_lt (Int.ofNat_lt.mpr c.2.2)⟩)]
/-- the class's text -/
theorem k_readText {d : Nat} {q : Int → mzM → Prop} {b : Nat → Int} {len : Nat} {w : Wd} {μ : mzM} (hl : len ≤ 120) (hW : WOk w) (ht : TpC μ b len) (hw : CW μ 2 w)
    (hyes : (itsS b len 121 0 w).1 = none → ∀ μ', XdC μ μ' → CW μ' 2 (itsS b len 121 0 w).2 → q (-1) μ')
    (hno : ∀ s, (itsS b len 121 0 w).1 = some s → ∀ μ', XdC μ μ' → q (s : Int) μ') : mzCl (d + 4) 116 [mzR 23, mzR 28] μ (mzQi q) := by
  have L : ∀ (f p i : Nat) (x2 : Int) (w1 : Wd) (m : mzM), len - p < f → p ≤ len → i ≤ p → x2 = i → WOk w1 → XdC μ m → TkC m (tk b len p) → CW m 2 w1 → itsS b len 121 0 w = itsS b len f p w1 → mzWp (d + 4) 116 11 [mzR 23, mzR 28, mzI x2, none] [] m (mzQi q) := by
    intro f
    induction f with
    | zero => intro p i x2 w1 m h; omega
    | succ f ih =>
      intro p i x2 w1 m hf hp hi hx hW1 x hk hw1 he
      subst hx
      have i1 := itS_ok (b := b) hp hW1
      have b1 := tk_bd (b := b) i1.1.1
      have good : (itS b len w1 p).1 = true → (tk b len (itS b len w1 p).2.1).1 ≠ 1 → ∀ m1, XdC m m1 → CW m1 2 (itS b len w1 p).2.2 → TkC m1 (tk b len (itS b len w1 p).2.1) → (m1 23 2 ≠ 0 → (m1 23 2 = 3 → mzCl (d + 3) 119 [mzR 23] m1 (mzQv fun m3 => mzWp (d + 4) 116 11 [mzR 23, mzR 28, mzI (mzW ((i : Int) + 1)), none] [] m3 (mzQi q))) ∧ (m1 23 2 ≠ 3 → q (m1 23 3) m1)) ∧ (m1 23 2 = 0 → q (-1) m1) := by
        intro ho h1 m1 y1 y2 y3
        refine ⟨fun z => ⟨fun z3 => ?_, fun z3 => ?_⟩, fun z => ?_⟩
        · have c5 : (tk b len (itS b len w1 p).2.1).1 = 3 := by have := y3.1; omega
          have p2 := b1.2.2.2.1 (by rw [c5]; decide)
          refine k_next (pos := nx b len (itS b len w1 p).2.1) hl b1.2.2.1 y3.2.2.1 ((x.tr y1).tp ht) (fun m3 a1 a2 => ih _ (i + 1) _ (itS b len w1 p).2.2 m3 ?_ b1.2.2.1 ?_ (by rw [wid (by omega) (by omega)]; omega) (i1.2 ho) ((x.tr y1).tr a1.d) a2 (y2.x a1 (i1.2 ho).1) ?_)
          · show len - nx b len _ < f
            unfold nx
            omega
          · show i + 1 ≤ nx b len _
            unfold nx
            omega
          · rw [he, itsS, if_pos ho, if_pos c5]
        · have c5 : (tk b len (itS b len w1 p).2.1).1 ≠ 3 := fun c => z3 (by rw [y3.1, c]; rfl)
          have c4 : (tk b len (itS b len w1 p).2.1).1 ≠ 0 := fun c => z (by rw [y3.1, c]; rfl)
          rw [y3.2.1]
          exact hno _ (by rw [he, itsS, if_pos ho, if_neg c5, if_neg c4]) m1 (x.tr y1)
        · have c4 : (tk b len (itS b len w1 p).2.1).1 = 0 := by have := y3.1; omega
          have e : itsS b len 121 0 w = (none, (itS b len w1 p).2.2) := by rw [he, itsS, if_pos ho, if_neg (by rw [c4]; decide), if_pos c4]
          rw [e] at hyes
          exact hyes rfl m1 (x.tr y1) y2
      have bad : ((itS b len w1 p).1 = false ∨ (tk b len (itS b len w1 p).2.1).1 = 1) → ∀ m1, XdC m m1 → m1 23 3 = (tk b len (itS b len w1 p).2.1).2.1 → q (m1 23 3) m1 := by
        intro ho m1 y1 y2
        rw [y2]
        refine hno _ ?_ m1 (x.tr y1)
        rw [he, itsS]
        by_cases c : (itS b len w1 p).1 = true
        · rcases ho with ho | ho
          · rw [ho] at c; exact absurd c (by decide)
          · rw [if_pos c, if_neg (by rw [ho]; decide), if_neg (by rw [ho]; decide)]
        · rw [if_neg c]
      refine g116_11 _ _ ⟨fun z => by omega, fun _ => ⟨fun z => ?_, fun z => ?_⟩⟩
      · have e : itS b len w1 p = plS b len w1 p := if_neg (fun c => z (by rw [hk.1, c]; rfl))
        rw [e] at good bad
        exact k_readPlace hl hp (x.tp ht) hk hw1 hW1 (fun g1 g2 m1 y1 y2 y3 => ⟨fun _ => good g1 g2 m1 y1 y2 y3, fun z => absurd z (by decide)⟩) (fun g m1 y1 y2 => ⟨fun z => absurd rfl z, fun _ => bad g m1 y1 y2⟩)
      · have e : itS b len w1 p = tieS b len w1 p := if_pos (by have := hk.1; omega)
        rw [e] at good bad
        refine k_readTie hl hp (x.tp ht) hk hw1 hW1 (fun g1 m1 y1 y2 y3 => ⟨fun _ => ?_, fun z => absurd z (by decide)⟩) (fun g m1 y1 y2 => ⟨fun z => absurd rfl z, fun _ => bad (Or.inl g) m1 y1 y2⟩)
        by_cases c : (tk b len (tieS b len w1 p).2.1).1 = 1
        · have := bad (Or.inr c) m1 y1 y3.2.1
          exact ⟨fun z => ⟨fun z3 => absurd (by rw [y3.1, c] at z3; exact z3) (by decide), fun _ => this⟩, fun z => absurd (by rw [y3.1, c] at z; exact z) (by decide)⟩
        · exact good g1 c m1 y1 y2 y3
  have x0 : XdC μ (mzS μ 23 4 0) := fun k j h1 _ _ _ => S_ne (by omega)
  have x0' : XtC μ (mzS μ 23 4 0) := XtC.rf.st (by omega)
  exact g116_e _ (k_next (pos := 0) hl (Nat.zero_le _) S_eq (x0.tp ht) (fun m1 x1 k1 => L 121 0 0 0 w m1 (by omega) (Nat.zero_le _) (Nat.zero_le _) rfl hW (x0.tr x1.d) k1 ((hw.x x0' hW.1).x x1 hW.1) rfl))
