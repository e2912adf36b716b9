/-! THE REFERENCE'S TIES -/
abbrev nx (b : Nat → Int) (len p : Nat) : Nat := (tk b len p).2.2.1
abbrev tv (b : Nat → Int) (len p : Nat) : Nat := (tk b len p).2.2.2
def tieS (b : Nat → Int) (len : Nat) (w : Wd) (p : Nat) : Bool × Nat × Wd :=
  if wE w ≠ 40 ∧ (tk b len p).1 = 2 ∧ tv b len p < wN w then
    if isWd b (tk b len (nx b len p)) 0 = true then
      if (tk b len (nx b len (nx b len p))).1 = 2 ∧ tv b len (nx b len (nx b len p)) < wN w ∧ tv b len (nx b len (nx b len p)) ≠ tv b len p ∧ wP w (tv b len p) (tv b len (nx b len (nx b len p))) = 0 then
        if isWd b (tk b len (nx b len (nx b len (nx b len p)))) 1 = true then
          if (tk b len (nx b len (nx b len (nx b len (nx b len p))))).1 = 2 ∧ 1 ≤ tv b len (nx b len (nx b len (nx b len (nx b len p)))) ∧ tv b len (nx b len (nx b len (nx b len (nx b len p)))) ≤ 99 then
            (true, nx b len (nx b len (nx b len (nx b len (nx b len p)))), tieW w (tv b len p) (tv b len (nx b len (nx b len p))) (tv b len (nx b len (nx b len (nx b len (nx b len p))))))
          else (false, nx b len (nx b len (nx b len (nx b len p))), w)
        else (false, nx b len (nx b len (nx b len p)), w)
      else (false, nx b len (nx b len p), w)
    else (false, nx b len p, w)
  else (false, p, w)
theorem c_numberB {d : Nat} {q : Int → mzM → Prop} {l1 h2 : Int} {μ : mzM} (hb : μ 0 11 = 1) (h : ∀ v, q v (mzS μ 0 11 1)) : mzCl (d + 3) 16 [mzR 0, mzI l1, mzI h2] μ (mzQi q) := by
  refine g16_e _ _ _ ⟨fun _ => ⟨or10, fun _ => h _, fun z => absurd z (by decide)⟩, fun z => by rw [hb] at z; exact absurd z (by decide)⟩
theorem MW.tie {m : mzM} {w : Wd} {f t : Nat} {v : Int} (h : MW m 1 w) (hN : wN w ≤ 12) (hf : f < 12) (ht : t < 12) : MW (mzS (mzS m 1 (124 + 12 * f + t) v) 1 1 (wE w + 1)) 1 (tieW w f t v) := by
  obtain ⟨g0, g1, g2, g3, g4, g5, g6, g7⟩ := h
  refine ⟨?_, S_eq, ?_, ?_, fun p t' hp ht' => ?_, fun f' t' hf' ht' => ?_, fun i hi => ⟨?_, ?_⟩, fun i hi => ?_⟩
  · rw [S_ne (by omega), S_ne (by omega)]; exact g0
  · rw [S_ne (by omega), S_ne (by omega)]; exact g2
  · rw [S_ne (by omega), S_ne (by omega)]; exact g3
  · have hp2 : p < wN w := hp
    rw [S_ne (by omega), S_ne (by omega)]; exact g4 p t' hp ht'
  · have hf2 : f' < wN w := hf'
    have ht2 : t' < wN w := ht'
    show _ = if f' = f ∧ t' = t then v else wP w f' t'
    rw [S_ne (by omega)]
    by_cases e : f' = f ∧ t' = t
    · rw [if_pos e, e.1, e.2, S_eq]
    · rw [if_neg e, S_ne (by omega)]; exact g5 f' t' hf' ht'
  · rw [S_ne (by omega), S_ne (by omega)]; exact (g6 i hi).1
  · rw [S_ne (by omega), S_ne (by omega)]; exact (g6 i hi).2
  · rw [S_ne (by omega), S_ne (by omega)]; exact g7 i hi
theorem w12c {f t : Nat} (hf : f < 12) (ht : t < 12) : mzW ((mzW (124 + (mzW (12 * (f : Int))))) + (t : Int)) = ((124 + 12 * f + t : Nat) : Int) := by unfold mzW; omega
theorem c_tieItem {d : Nat} {q : mzM → Prop} {b : Nat → Int} {len p : Nat} {w : Wd} {μ : mzM} (hl : len ≤ 120) (hp : p ≤ len) (hE : 0 ≤ wE w ∧ wE w ≤ 40) (ht : TpM μ b len) (hk : TkM' μ (tk b len p)) (hb : μ 0 11 = 0) (hw : MW μ 1 w) (hn : wN w ≤ 12)
    (hok : (tieS b len w p).1 = true → ∀ μ', XpM μ μ' → μ' 0 11 = 0 → MW μ' 1 (tieS b len w p).2.2 → TkM' μ' (tk b len (tieS b len w p).2.1) → q μ')
    (hno : (tieS b len w p).1 = false → ∀ μ', XpM μ μ' → μ' 0 11 = 1 → μ' 0 8 = (tk b len (tieS b len w p).2.1).2.1 → q μ') : mzCl (d + 4) 19 [mzR 0] μ (mzQv q) := by
  have e1 : ∀ n : Nat, n ≤ 12 → mzW ((n : Int) - 1) = (n : Int) - 1 := fun n h => wid (by omega) (by omega)
  -- out of it with a fault, from 66 and from 173
  have no : ∀ {m : mzM} {P : Nat} {v : Int}, tieS b len w p = (false, P, w) → XpM μ m → m 0 8 = (tk b len P).2.1 → mzWp (d + 4) 19 66 [mzR 0, mzI v, none, none] [] (mzS m 0 11 1) (mzQv q) := fun e x z => g19_66 _ _ ⟨fun y => absurd (S_eq.symm.trans y) (by decide), fun _ => hno (by rw [e]) _ (x.st (by omega)) S_eq (by rw [e, S_ne (by omega)]; exact z)⟩
  have no2 : ∀ {m : mzM} {P : Nat} {u v : Int}, tieS b len w p = (false, P, w) → XpM μ m → m 0 8 = (tk b len P).2.1 → mzWp (d + 4) 19 173 [mzR 0, mzI u, mzI v, none] [] (mzS m 0 11 1) (mzQv q) := fun e x z => g19_173 _ _ _ ⟨fun y => absurd (S_eq.symm.trans y) (by decide), fun _ => hno (by rw [e]) _ (x.st (by omega)) S_eq (by rw [e, S_ne (by omega)]; exact z)⟩
  have no3 : ∀ {m : mzM} {P : Nat} {u : Int}, tieS b len w p = (false, P, w) → XpM μ m → m 0 8 = (tk b len P).2.1 → mzWp (d + 4) 19 134 [mzR 0, mzI u, none, none] [] (mzS m 0 11 1) (mzQv q) := fun e x z => g19_134 _ _ ⟨⟨by omega, by omega⟩, c_numberB S_eq (fun v => ⟨fun _ => ⟨or10, no2 e ((x.st (by omega)).st (by omega)) (by rw [S_ne (by omega), S_ne (by omega)]; exact z)⟩, fun y => absurd (S_eq.symm.trans y) (by decide)⟩)⟩
  have bd := tk_bd (b := b) hp
  have bd1 := tk_bd (b := b) (len := len) (pos := nx b len p) bd.2.2.1
  have bd2 := tk_bd (b := b) (len := len) (pos := nx b len (nx b len p)) bd1.2.2.1
  have bd3 := tk_bd (b := b) (len := len) (pos := nx b len (nx b len (nx b len p))) bd2.2.2.1
  have bd4 := tk_bd (b := b) (len := len) (pos := nx b len (nx b len (nx b len (nx b len p)))) bd3.2.2.1
  refine g19_e _ ⟨fun z => absurd hb z, fun _ => ⟨⟨by omega, by omega⟩, fun z => ⟨or00, ?_⟩, fun z => ⟨or10, ?_⟩⟩⟩
  · have hE2 : wE w ≠ 40 := by have := hw.2.1; omega
    have x0 : XpM μ (mzS μ 0 11 0) := XpM.rf.st (by omega)
    refine g19_27 _ ⟨⟨by omega, by omega⟩, ?_⟩
    rw [S_ne (by omega), hw.1, e1 _ hn]
    refine c_number (b := b) (len := len) (t := tk b len p) hl (x0.tp ht) (hk.st (by omega)) bd.2.2.1 S_eq (by omega) (by omega) (fun y1 y2 y3 m1 y4 y5 => ⟨fun z => ?_, fun _ => ?_⟩) (fun y v => ⟨fun _ => ⟨or10, no (P := p) ?_ ((x0.st (by omega))) ?_⟩, fun y => absurd (S_eq.symm.trans y) (by decide)⟩)
    · rw [y4 0 11 (by omega), S_eq] at z; exact absurd rfl z
    · have x1 : XpM μ m1 := (x0.st (by omega)).tr y4.p
      have w1 : MW m1 1 w := y4.cg hw.st0.st0
      have b1 : m1 0 11 = 0 := by rw [y4 0 11 (by omega), S_eq]
      have c0 : wE w ≠ 40 ∧ (tk b len p).1 = 2 ∧ tv b len p < wN w := ⟨hE2, y1, by show (tk b len p).2.2.2 < _; omega⟩
      refine c_isWord (d := d + 2) (b := b) (len := len) (by omega) hl (x1.tp ht) y5 bd1.2.1 bd1.2.2.1 b1 (fun u => ⟨fun _ => ⟨or00, ?_⟩, fun z => absurd z (by decide)⟩) (fun u => ⟨fun z => absurd rfl z, fun _ => ⟨or10, no (P := nx b len p) (by rw [tieS, if_pos c0, if_neg (by rw [u]; decide)]) x1 y5.2.1⟩⟩)
      refine g19_66 _ _ ⟨fun _ => ?_, fun z => absurd S_eq z⟩
      have x2 : XpM μ (mzS m1 0 11 0) := x1.st (by omega)
      refine c_next (pos := nx b len (nx b len p)) hl bd1.2.2.1 (by rw [S_ne (by omega)]; exact y5.2.2.1) (x2.tp ht) (fun m2 z1 z2 => ?_)
      have x3 : XpM μ m2 := x2.tr z1.p
      have w3 : MW m2 1 w := z1.cg w1.st0
      have F : ∀ {m : mzM}, ¬ ((tk b len (nx b len (nx b len p))).1 = 2 ∧ tv b len (nx b len (nx b len p)) < wN w ∧ tv b len (nx b len (nx b len p)) ≠ tv b len p ∧ wP w (tv b len p) (tv b len (nx b len (nx b len p))) = 0) → tieS b len w p = (false, nx b len (nx b len p), w) := fun c => by rw [tieS, if_pos c0, if_pos u, if_neg c]
      have fl : ¬ ((tk b len (nx b len (nx b len p))).1 = 2 ∧ tv b len (nx b len (nx b len p)) < wN w ∧ tv b len (nx b len (nx b len p)) ≠ tv b len p ∧ wP w (tv b len p) (tv b len (nx b len (nx b len p))) = 0) → mzWp (d + 4) 19 134 [mzR 0, mzI ((tk b len p).2.2.2 : Int), none, none] [] (mzS m2 0 11 1) (mzQv q) := fun c => no3 (F (m := m2) c) x3 z2.2.1
      refine ⟨fun c => ⟨or10, fl (fun c' => c (by rw [z2.1, c'.1]; rfl))⟩, fun c => ?_⟩
      have c2 : (tk b len (nx b len (nx b len p))).1 = 2 := by have := z2.1; omega
      obtain ⟨v1, v2, v3, v4⟩ := z2.2.2.2 c2
      have v5 : m2 0 10 < (wN w : Int) → (tv b len (nx b len (nx b len p)) : Int) = m2 0 10 := fun h => v3 (by omega)
      have v6 : ¬ m2 0 10 < (wN w : Int) → ¬ tv b len (nx b len (nx b len p)) < wN w := fun h => by
        by_cases c9 : m2 0 10 ≤ 9999
        · have := v3 c9
          show ¬ (tk b len (nx b len (nx b len p))).2.2.2 < _
          omega
        · have := v4 (by omega)
          show ¬ (tk b len (nx b len (nx b len p))).2.2.2 < _
          omega
      refine c_isPlace (d := d + 2) w3.1 hn (fun a1 a2 => ⟨fun z => absurd z (by decide), fun _ => ⟨fun c3 => ⟨or10, fl (fun c' => c'.2.2.1 ?_)⟩, fun c3 => ?_⟩⟩) (fun a => ⟨fun _ => ⟨or10, fl (fun c' => v6 (by omega) c'.2.1)⟩, fun z => absurd rfl z⟩)
      · have := v5 a2
        show (tk b len _).2.2.2 = (tk b len p).2.2.2
        have e : (tv b len (nx b len (nx b len p)) : Int) = ((tk b len p).2.2.2 : Int) := this.trans c3
        exact Int.ofNat.inj e
      · have e5 := v5 a2
        have hf : (tk b len p).2.2.2 < 12 := Nat.lt_of_lt_of_le c0.2.2 hn
        have htn : tv b len (nx b len (nx b len p)) < wN w := by omega
        have ht12 : tv b len (nx b len (nx b len p)) < 12 := by omega
        rw [← e5, w12c hf ht12, Int.toNat_natCast]
        have ep : m2 1 (124 + 12 * (tk b len p).2.2.2 + tv b len (nx b len (nx b len p))) = wP w (tv b len p) (tv b len (nx b len (nx b len p))) := w3.2.2.2.2.2.1 _ _ c0.2.2 htn
        refine ⟨⟨by omega, by omega⟩, fun c4 => ⟨or00, ?_⟩, fun c4 => ⟨or10, fl (fun c' => c4 (ep.trans c'.2.2.2))⟩⟩
        have c5 : (tk b len (nx b len (nx b len p))).1 = 2 ∧ tv b len (nx b len (nx b len p)) < wN w ∧ tv b len (nx b len (nx b len p)) ≠ tv b len p ∧ wP w (tv b len p) (tv b len (nx b len (nx b len p))) = 0 := ⟨c2, htn, fun z => c3 (by rw [← e5, z]), ep.symm.trans c4⟩
        have x4 : XpM μ (mzS m2 0 11 0) := x3.st (by omega)
        refine g19_134 _ _ ⟨⟨by omega, by omega⟩, ?_⟩
        rw [S_ne (by omega), w3.1, e1 _ hn]
        refine c_number (b := b) (len := len) (t := tk b len (nx b len (nx b len p))) hl (x4.tp ht) (z2.st (by omega)) bd2.2.2.1 S_eq (by omega) (by omega) (fun a3 a4 a5 m3 a6 a7 => ⟨fun z => ?_, fun _ => ?_⟩) (fun y => absurd ⟨c2, by omega, by show ((tv b len (nx b len (nx b len p)) : Nat) : Int) ≤ _; omega⟩ y)
        · rw [a6 0 11 (by omega), S_eq] at z; exact absurd rfl z
        · have x5 : XpM μ m3 := (x4.st (by omega)).tr a6.p
          have w5 : MW m3 1 w := a6.cg w3.st0.st0
          have b5 : m3 0 11 = 0 := by rw [a6 0 11 (by omega), S_eq]
          refine c_isWord (d := d + 2) (b := b) (len := len) (by omega) hl (x5.tp ht) a7 bd3.2.1 bd3.2.2.1 b5 (fun u2 => ⟨fun _ => ⟨or00, ?_⟩, fun z => absurd z (by decide)⟩) (fun u2 => ⟨fun z => absurd rfl z, fun _ => ⟨or10, no2 (P := nx b len (nx b len (nx b len p))) (by rw [tieS, if_pos c0, if_pos u, if_pos c5, if_neg (by rw [u2]; decide)]) x5 a7.2.1⟩⟩)
          refine g19_173 _ _ _ ⟨fun _ => ?_, fun z => absurd S_eq z⟩
          have x6 : XpM μ (mzS m3 0 11 0) := x5.st (by omega)
          refine c_next (pos := nx b len (nx b len (nx b len (nx b len p)))) hl bd3.2.2.1 (by rw [S_ne (by omega)]; exact a7.2.2.1) (x6.tp ht) (fun m4 s1 s2 => ?_)
          have x7 : XpM μ m4 := x6.tr s1.p
          have w7 : MW m4 1 w := s1.cg w5.st0
          have b7 : m4 0 11 = 0 := by rw [s1 0 11 (by omega), S_eq]
          refine c_number (b := b) (len := len) (t := tk b len (nx b len (nx b len (nx b len (nx b len p))))) hl (x7.tp ht) s2 bd4.2.2.1 b7 (by omega) (by omega) (fun a8 a9 a10 m5 a11 a12 => ⟨fun _ => ?_, fun z => ?_⟩) (fun y v => ⟨fun y => absurd (S_eq.symm.trans y) (by decide), fun _ => ?_⟩)
          · have w9 : MW m5 1 w := a11.cg w7.st0
            have e9 : tieS b len w p = (true, nx b len (nx b len (nx b len (nx b len (nx b len p)))), tieW w (tv b len p) (tv b len (nx b len (nx b len p))) (tv b len (nx b len (nx b len (nx b len (nx b len p)))))) := by rw [tieS, if_pos c0, if_pos u, if_pos c5, if_pos u2, if_pos ⟨a8, by show 1 ≤ (tk b len _).2.2.2; omega, by show (tk b len _).2.2.2 ≤ 99; omega⟩]
            rw [w12c hf ht12, Int.toNat_natCast]
            refine ⟨⟨by omega, by omega⟩, ⟨by omega, by omega⟩, ⟨by omega, by omega⟩, ?_⟩
            rw [e9] at hok
            rw [S_ne (k := 1) (a := 1) (b := 1) (by omega), w9.2.1, wid (by omega) (by omega)]
            refine hok rfl _ ((((x7.st (by omega)).tr a11.p).st1).st1) ?_ (w9.tie hn hf ht12) ((a12.st (by omega)).st (by omega))
            rw [S_ne (by omega), S_ne (by omega), a11 0 11 (by omega), S_eq]
          · rw [a11 0 11 (by omega), S_eq] at z; exact absurd rfl z
          · have e9 : tieS b len w p = (false, nx b len (nx b len (nx b len (nx b len p))), w) := by rw [tieS, if_pos c0, if_pos u, if_pos c5, if_pos u2, if_neg (fun c => y ⟨c.1, Int.ofNat_le.mpr c.2.1, Int.ofNat_le.mpr c.2.2⟩)]
            exact hno (by rw [e9]) _ (x7.st (by omega)) S_eq (by rw [e9, S_ne (by omega)]; exact s2.2.1)
    · rw [tieS, if_neg (fun c => y ⟨c.2.1, by omega, Int.le_sub_one_of_lt (Int.ofNat_lt.mpr c.2.2)⟩)]
    · rw [S_ne (by omega)]; exact hk.2.1
  · refine g19_27 _ ⟨⟨by omega, by omega⟩, c_numberB S_eq (fun v => ⟨fun _ => ⟨or10, no (P := p) ?_ ((XpM.rf.st (by omega)).st (by omega)) (by rw [S_ne (by omega), S_ne (by omega)]; exact hk.2.1)⟩, fun y => absurd (S_eq.symm.trans y) (by decide)⟩)⟩
    rw [tieS, if_neg (fun c => c.1 (hw.2.1.symm.trans z))]
