section MZS
variable {G : mzG} {p : Program} {l : Launch} {e : Env} {R : Room} {s : State} {m : MethodId} {args : Array Value} {below : List Frame} {meth : Method} {c : Code} {cells slots : Nat} {Z : State → Prop} {y d pc : Nat} {L S : List mzV} {μ : mzM}
theorem mz_arr {v : mzV} {f : Nat → Nat → Prop} (h : mzArr v f) : ∃ k n z, mzSh k = (0, n, z) ∧ f k n ∧ mzC G v = .ref (mzAd G k) := by
  unfold mzArr at h
  split at h
  · next k =>
    split at h
    · next n z hz => exact ⟨k, n, z, hz, h, rfl⟩
    · exact h.elim
  · next q o =>
    split at h
    · next cnt n hp => exact ⟨q + o, n, 0, mz_pool0 hp h.1, h.2, rfl⟩
    · exact h.elim
  · exact h.elim
theorem mz_cpe {ka kb i j n na z : Nat} (hb : mzSh kb = (0, na, z)) : mzEnt G (mzCp μ ka i kb j n) kb = .inl (G.2.2.1, na, .inl (va_cpy (fun q => Int32.ofInt (μ ka q)) (fun q => Int32.ofInt (μ kb q)) i j n)) := by
  rw [mz_ent0 hb]
  congr 4
  funext q
  unfold mzCp va_cpy
  by_cases h : j ≤ q ∧ q < j + n
  · simp [h]
  · simp [h]
theorem mzr_copy (C : mzCx G p R s m args meth c y (d + 1) cells slots) {k ka kb na nb za zb : Nat} {i j n : Int} {u w : mzV} (hl : Jvm.Cond.methodLink (mzNo (mzOw y)) k arraycopyName ∈ lw_tbl) (ha : mzSh ka = (0, na, za)) (hb : mzSh kb = (0, nb, zb)) (hu : mzC G u = .ref (mzAd G ka)) (hw : mzC G w = .ref (mzAd G kb))
    (hq : 0 ≤ i ∧ 0 ≤ j ∧ 0 ≤ n ∧ i + n ≤ (na : Int) ∧ j + n ≤ (nb : Int)) (hsz : mzSz S ≤ 8) (hd : decode (mzBy y) pc = .ok (.invokestatic k, 3))
    (kk : mzGo G p l e R s m args below meth c cells slots Z y (pc + 3) L S (mzCp μ ka i.toNat kb j.toNat n.toNat)) : mzGo G p l e R s m args below meth c cells slots Z y pc L (mzI n :: mzI j :: w :: mzI i :: u :: S) μ := by
  intro H locs ls h1 h2 h3 h4
  have hka := mz_shlt ha (by decide)
  have hkb := mz_shlt hb (by decide)
  have hna : na ≤ 4096 := by
    have := (mz_shn ka hka).2.2
    rw [ha] at this
    exact this (show (0 : Nat) ≠ 1 by decide)
  have hnb : nb ≤ 4096 := by
    have := (mz_shn kb hkb).2.2
    rw [hb] at this
    exact this (show (0 : Nat) ≠ 1 by decide)
  have hea : (mzWo G μ)[ka]? = some (mzAd G ka, .inl (G.2.2.1, na, .inl (fun q => Int32.ofInt (μ ka q)))) := by rw [mz_wo hka, mz_ent0 ha]
  have heb : (mzWo G μ)[kb]? = some (mzAd G kb, .inl (G.2.2.1, nb, .inl (fun q => Int32.ofInt (μ kb q)))) := by rw [mz_wo hkb, mz_ent0 hb]
  have hsum := Nat.le_trans (mz_sz (G := G) S) hsz
  have hroom := C.2.2.2.2.2.2.2.2.2.2.1
  show W p l e R s m args below meth c H locs cells slots Z (F0 m pc ls (.int (Int32.ofInt n) :: .int (Int32.ofInt j) :: mzC G w :: .int (Int32.ofInt i) :: mzC G u :: S.map (mzC G)))
  rw [hu, hw]
  have ng : ∀ {z : Int}, 0 ≤ z → z < 2147483648 → ¬ Int32.ofInt z < 0 := fun {z} a b q => by
    have := (mz_lt (x := z) (y := 0) ⟨by omega, b⟩ ⟨by omega, by omega⟩).mp q
    omega
  obtain ⟨q1, q2, q3, q4, q5⟩ := hq
  have hnw : nativeFrameWords "java/lang/System" "arraycopy" 5 ≤ 20 := by decide
  refine va_copyi C.1 C.2.1 (by rw [C.2.2.1, h3.1]) C.2.2.2.2.2.1 (C.2.2.2.2.2.2.1 _ (mz_tb hl rfl)) (C.2.2.2.2.2.2.1 _ (mz_tb mz_prw.2.2.2.1 rfl)) (C.2.2.2.2.2.2.1 _ (mz_tb mz_prw.2.2.2.2.1 rfl)) (C.2.2.2.2.2.2.1 _ (mz_tb mz_prw.2.2.2.2.2 rfl)) C.2.2.2.2.2.2.2.1.2.1 h1.1 (mz_D C.2.2.2.2.2.2.2.2.1 μ) h2 ka kb 0 0 hea heb rfl rfl rfl (ng q1 (by omega)) (ng q2 (by omega)) (ng q3 (by omega))
    (by rw [mz_nat' q1 (by omega), mz_nat' q3 (by omega)]; omega) (by rw [mz_nat' q2 (by omega), mz_nat' q3 (by omega)]; omega) (fun _ _ => rfl) (by omega) (by omega) hd (fun H1 locs1 hP1 _ hS1 => ?_)
  rw [mz_nat' q1 (by omega), mz_nat' q2 (by omega), mz_nat' q3 (by omega)] at hP1
  refine kk H1 locs1 ls ⟨?_, fun a b => ?_, fun a => ?_, ?_⟩ hS1 h3 (mz_skt (mz_skt (mz_skt (mz_skt (mz_skt h4)))))
  · rw [mz_set hkb (mz_cpe hb) (fun k' _ hn => mz_ent_ne (fun q => by unfold mzCp; rw [if_neg (fun z => hn z.1)]))] at hP1
    exact hP1
  · unfold mzCp
    split
    · exact h1.2.1 _ _
    · exact h1.2.1 _ _
  · unfold mzCp
    rw [if_neg (fun q => by omega)]
    exact h1.2.2.1 a
  · unfold mzCp
    rw [if_neg (fun q => by omega)]
    exact h1.2.2.2
theorem mzPr_ok (C : mzCx G p R s m args meth c y (d + 1) cells slots) {c0 k : Nat} {K : List mzV → List mzV → mzM → Prop} {st : Bool} (hl : mzPrW (mzOw y) k c0 = true) (hst : (c0 ≤ 3 ∧ decode (mzBy y) pc = .ok (.invokestatic k, 3)) ∨ (4 ≤ c0 ∧ decode (mzBy y) pc = .ok (.invokevirtual k, 3))) (h : mzPr c0 K L S μ)
    (kk : ∀ L' S' μ', K L' S' μ' → mzGo G p l e R s m args below meth c cells slots Z y (pc + 3) L' S' μ') : mzGo G p l e R s m args below meth c cells slots Z y pc L S μ := by
  have hw := mz_in hl
  have hroom := C.2.2.2.2.2.2.2.2.2.2.1
  unfold mzPr at h
  split at h
  · have hd := (hst.resolve_right (fun q => by omega)).2
    split at h
    · next v u S' =>
      split at h
      · next hz =>
        have hz := Nat.le_of_ble_eq_true hz
        intro H locs ls h1 h2 h3 h4
        have hsum := Nat.le_trans (mz_sz (G := G) S') hz
        refine va_mmax C.1 C.2.1 (by rw [C.2.2.1, h3.1]) C.2.2.2.2.2.1 (C.2.2.2.2.2.2.1 _ (mz_tb hw rfl)) (C.2.2.2.2.2.2.1 _ (mz_tb mz_prw.1 rfl)) (C.2.2.2.2.2.2.1 _ (mz_tb mz_prw.2.2.1 rfl)) (C.2.2.2.2.2.2.1 _ (mz_tb mz_cmax rfl)) (by omega) (by omega) C.2.2.2.2.2.2.2.2.2.1.1 C.2.2.2.2.2.2.2.2.2.1.2 hd ?_
        have hv := (mz_skh h4).2
        have hu := (mz_skh (mz_skt h4)).2
        have eq : (if Int32.ofInt u < Int32.ofInt v then Int32.ofInt v else Int32.ofInt u) = Int32.ofInt (mzMx u v) := by
          unfold mzMx
          by_cases q : u < v
          · rw [if_pos ((mz_lt hu hv).mpr q), if_pos q]
          · rw [if_neg (fun z => q ((mz_lt hu hv).mp z)), if_neg q]
        have hb : mzK (mzI (mzMx u v)) := by
          show -2147483648 ≤ mzMx u v ∧ mzMx u v < 2147483648
          unfold mzMx
          split
          · exact hv
          · exact hu
        rw [eq]
        exact kk _ _ _ h H locs ls h1 h2 h3 (mz_sk (by simp) hb (mz_skt (mz_skt h4)))
      · exact h.elim
    · exact h.elim
  · have hd := (hst.resolve_right (fun q => by omega)).2
    split at h
    · next v u S' =>
      split at h
      · next hz =>
        have hz := Nat.le_of_ble_eq_true hz
        intro H locs ls h1 h2 h3 h4
        have hsum := Nat.le_trans (mz_sz (G := G) S') hz
        refine va_mmin C.1 C.2.1 (by rw [C.2.2.1, h3.1]) C.2.2.2.2.2.1 (C.2.2.2.2.2.2.1 _ (mz_tb hw rfl)) (C.2.2.2.2.2.2.1 _ (mz_tb mz_prw.2.1 rfl)) (C.2.2.2.2.2.2.1 _ (mz_tb mz_prw.2.2.1 rfl)) (C.2.2.2.2.2.2.1 _ (mz_tb mz_cmin rfl)) (by omega) (by omega) C.2.2.2.2.2.2.2.2.2.1.1 C.2.2.2.2.2.2.2.2.2.1.2 hd ?_
        have hv := (mz_skh h4).2
        have hu := (mz_skh (mz_skt h4)).2
        have eq : (if Int32.ofInt v < Int32.ofInt u then Int32.ofInt v else Int32.ofInt u) = Int32.ofInt (mzMn u v) := by
          unfold mzMn
          by_cases q : v < u
          · rw [if_pos ((mz_lt hv hu).mpr q), if_pos q]
          · rw [if_neg (fun z => q ((mz_lt hv hu).mp z)), if_neg q]
        have hb : mzK (mzI (mzMn u v)) := by
          show -2147483648 ≤ mzMn u v ∧ mzMn u v < 2147483648
          unfold mzMn
          split
          · exact hv
          · exact hu
        rw [eq]
        exact kk _ _ _ h H locs ls h1 h2 h3 (mz_sk (by simp) hb (mz_skt (mz_skt h4)))
      · exact h.elim
    · exact h.elim
  · have hd := (hst.resolve_right (fun q => by omega)).2
    split at h
    · next n j w i u S' =>
      split at h
      · next hz =>
        have hz := Nat.le_of_ble_eq_true hz
        obtain ⟨ka, na, za, hka, h, hu⟩ := mz_arr (G := G) h
        obtain ⟨kb, nb, zb, hkb, h, hv⟩ := mz_arr (G := G) h
        exact mzr_copy C hw hka hkb hu hv h.1 hz hd (kk _ _ _ h.2)
      · exact h.elim
    · exact h.elim
  · have hd := (hst.resolve_left (fun q => by omega)).2
    split at h
    · split at h
      · next hz => exact mzr_strlen C hw h.1 (Nat.le_of_ble_eq_true hz) hd (kk _ _ _ h.2)
      · exact h.elim
    · exact h.elim
  · have hd := (hst.resolve_left (fun q => by omega)).2
    split at h
    · split at h
      · next hz => exact mzr_charAt C hw h.1.1 h.1.2 (Nat.le_of_ble_eq_true hz) hd (kk _ _ _ h.2)
      · exact h.elim
    · exact h.elim
  · exact h.elim
/-- a call of a method of ours -/
theorem mzr_callS (C : mzCx G p R s m args meth c y (d + 1) cells slots) {k b n : Nat} {K : mzV → mzM → Prop} (hin : (mzOw y, k, b, 2) ∈ mzML) (hn : n = mzNp b) (hlen : n ≤ S.length) (hsz : mzSz (S.drop n) ≤ 8) (hlay : (mzLay (S.take n).reverse).length ≤ mzNl b) (hd : decode (mzBy y) pc = .ok (.invokestatic k, 3))
    (h : mzCall d b (S.take n).reverse μ K) (kk : ∀ v μ', K v μ' → mzGo G p l e R s m args below meth c cells slots Z y (pc + 3) L (mzPu v (S.drop n)) μ') : mzGo G p l e R s m args below meth c cells slots Z y pc L S μ := by
  intro H locs ls h1 h2 h3 h4
  obtain ⟨g1, g2, g3, -, -, g6⟩ := mz_ML _ hin
  have g1 : b < 192 := g1
  have g2 : 0 < b := g2
  obtain ⟨Q, hQ, hK⟩ := mz_retk h
  have hal : (S.take n).reverse.length = n := by rw [List.length_reverse, List.length_take]; omega
  have hM := mz_met hQ g2 g1 (mz_take h4) hlay C.2.2.2.2.2.2.2.2.1 l
  have hpre := mz_pre C h1 h2 (as := (S.take n).reverse)
  have hown := mz_ow b g1
  have hnm := mz_names b g1 g2
  have hG := mz_goodws g1 g2
  have hT : GoodIn mzTb (va_wsS (mzNo (mzOw y)) k (mzYn b) (mzWs b)) := fun w hw => by
    unfold va_wsS at hw
    rcases List.mem_append.mp hw with h9 | h9
    · have : w ∈ mzTb := by
        simp only [List.mem_cons, List.not_mem_nil, or_false] at h9
        rcases h9 with rfl | rfl | rfl
        · exact mz_tb (g3 (show (2 : Nat) ≠ 1 by decide)) rfl
        · exact mz_tb (g6 rfl) rfl
        · rw [hnm]
          exact mz_tb (mz_ini _ hown) rfl
      exact ⟨this, mz_good this⟩
    · exact hG w h9
  rw [mz_stk n]
  refine mz_back (va_runS (As := (S.take n).reverse.map (mzC G)) (rest := (S.drop n).map (mzC G)) ⟨C.1, C.2.1, C.2.2.1, C.2.2.2.2.2.1, C.2.2.2.2.2.2.1⟩ hM (va_cwS n C.2.2.2.2.2.2.1 hT rfl rfl rfl ⟨by rw [hnm]; exact (mz_noMH _ hown).1, by rw [hnm]; exact (mz_noMH _ hown).2, by rw [hn]; exact mz_desc b g1 g2⟩ (mz_room C g1)) ⟨mz_blind, hpre⟩ rfl (by rw [List.length_map, hal]) h3.1 rfl (lv_room (Nat.le_trans (mz_sz _) hsz)) hd ⟨C.2.2.2.2.2.2.2.2.2.1.1, C.2.2.2.2.2.2.2.2.2.1.2⟩) h2 (fun v μ' H' locs' q1 q2 q3 q4 q5 => ?_)
  rw [mz_ovl v (S.drop n) _ rfl]
  refine kk v μ' (hK v μ' q1 q2) H' locs' ls q4 q5 h3 ?_
  cases v with
  | none => exact mz_drop h4
  | some w => exact mz_sk (by simp) q3 (mz_drop h4)
theorem mzr_callV (C : mzCx G p R s m args meth c y (d + 1) cells slots) {k b n t : Nat} {K : mzV → mzM → Prop} (hin : (mzOw y, k, b, 0) ∈ mzML ∨ (mzOw y, k, b, 1) ∈ mzML) (hn : n = mzNp b + 1) (hlen : n ≤ S.length) (hsz : mzSz (S.drop n) ≤ 8) (hlay : (mzLay (S.take n).reverse).length ≤ mzNl b) (hd : decode (mzBy y) pc = .ok (.invokevirtual k, 3))
    {u : mzV} {as : List mzV} (hu : (S.take n).reverse = u :: as) {z : Nat} (huk : mzC G u = .ref (mzAd G t)) (hsh : mzSh t = (1, mzOw b, z))
    (h : mzCall d b (S.take n).reverse μ K) (kk : ∀ v μ', K v μ' → mzGo G p l e R s m args below meth c cells slots Z y (pc + 3) L (mzPu v (S.drop n)) μ') : mzGo G p l e R s m args below meth c cells slots Z y pc L S μ := by
  intro H locs ls h1 h2 h3 h4
  have g0 : b < 192 ∧ 0 < b ∧ Jvm.Cond.instanceMethod (mzYn b) ∈ lw_tbl ∧ Jvm.Cond.selects (mzYn b).cls (mzYn b) (mzYn b) ∈ lw_tbl ∧ mzOw b < 6 := by
    rcases hin with q | q
    · exact ⟨(mz_ML _ q).1, (mz_ML _ q).2.1, (mz_ML _ q).2.2.2.2.1 (show (0 : Nat) ≤ 1 by decide)⟩
    · exact ⟨(mz_ML _ q).1, (mz_ML _ q).2.1, (mz_ML _ q).2.2.2.2.1 (show (1 : Nat) ≤ 1 by decide)⟩
  obtain ⟨g1, g2, g4, g5, g6⟩ := g0
  obtain ⟨Q, hQ, hK⟩ := mz_retk h
  have hal : (S.take n).reverse.length = n := by rw [List.length_reverse, List.length_take]; omega
  have hM := mz_met hQ g2 g1 (mz_take h4) hlay C.2.2.2.2.2.2.2.2.1 l
  have hpre := mz_pre C h1 h2 (as := (S.take n).reverse)
  have hown := mz_ow b g1
  have hnm := mz_names b g1 g2
  have hG := mz_goodws g1 g2
  have hstk := mz_stk (G := G) (S := S) n
  have hrc := mz_rcv C h1 hsh g6
  rw [hu] at hM hpre hal hstk
  rw [show (u :: as).map (mzC G) = .ref (mzAd G t) :: as.map (mzC G) by rw [List.map_cons, huk]] at hM hpre hstk
  have hstk2 : S.map (mzC G) = (as.map (mzC G)).reverse ++ .ref (mzAd G t) :: (S.drop n).map (mzC G) := by rw [hstk]; simp
  have hal2 : as.length = mzNp b := by simp at hal; omega
  have hd1 : (mzYn b).cls = mzNo (mzOw b) ∧ (mzYn b).cls ≠ "java/lang/invoke/MethodHandle" ∧ (mzYn b).cls ≠ "java/lang/invoke/VarHandle" ∧ (parseMethodDescriptor (mzYn b).desc).map (fun d => d.parameters.length) = some (mzNp b) := ⟨hnm, by rw [hnm]; exact (mz_noMH _ hown).1, by rw [hnm]; exact (mz_noMH _ hown).2, mz_desc b g1 g2⟩
  have fin : ∀ (v : mzV) (μ' : mzM) (H' : Heap) (locs' : List Loc), Q v μ' → mzTyp (mzRt b) v → mzK v → mzSt G H' μ' → va_S (mzA G) s.heap H' locs' → W p l e R s m args below meth c H' locs' cells slots Z (F0 m (pc + 3) ls ((mzOv G v).toList ++ (S.drop n).map (mzC G))) := by
    intro v μ' H' locs' q1 q2 q3 q4 q5
    rw [mz_ovl v (S.drop n) _ rfl]
    refine kk v μ' (hK v μ' q1 q2) H' locs' ls q4 q5 h3 ?_
    cases v with
    | none => exact mz_drop h4
    | some w => exact mz_sk (by simp) q3 (mz_drop h4)
  rw [hstk2]
  rcases hin with q | q
  · have g3 := (mz_ML _ q).2.2.1 (show (0 : Nat) ≠ 1 by decide)
    have hT : GoodIn mzTb (wsV (mzNo (mzOw y)) k (mzNo (mzOw b)) (mzYn b) (mzWs b)) := fun w hw => by
      unfold wsV at hw
      rcases List.mem_append.mp hw with h9 | h9
      · have : w ∈ mzTb := by
          simp only [List.mem_cons, List.not_mem_nil, or_false] at h9
          rcases h9 with rfl | rfl | rfl | rfl
          · exact mz_tb g3 rfl
          · exact mz_tb g4 rfl
          · rw [← hnm]
            exact mz_tb g5 rfl
          · exact mz_tb (mz_ini _ hown) rfl
        exact ⟨this, mz_good this⟩
      · exact hG w h9
    exact mz_back (va_runV (As := as.map (mzC G)) (rest := (S.drop n).map (mzC G)) ⟨C.1, C.2.1, C.2.2.1, C.2.2.2.2.2.1, C.2.2.2.2.2.2.1⟩ hM (cwV (mzNp b) C.2.2.2.2.2.2.1 hT rfl rfl rfl hd1 (mz_room C g1)) ⟨mz_blind, hrc, hpre⟩ rfl (by rw [List.length_map, hal2]) h3.1 rfl (lv_room (Nat.le_trans (mz_sz _) hsz)) hd ⟨C.2.2.2.2.2.2.2.2.2.1.1, C.2.2.2.2.2.2.2.2.2.1.2⟩) h2 fin
  · have g3 := (mz_ML _ q).2.2.2.1 rfl
    have hz : va_Nw (.methodLinkNest (mzNo (mzOw y)) k (mzYn b) "MeltPins") s := C.2.2.2.2.2.2.2.1.1 _ g3
    exact mz_back (va_runVN (As := as.map (mzC G)) (rest := (S.drop n).map (mzC G)) ⟨C.1, C.2.1, C.2.2.1, C.2.2.2.2.2.1, C.2.2.2.2.2.2.1⟩ hM ⟨va_cnB (mzNp b) C.2.2.2.2.2.2.1 hG rfl rfl rfl hz (by rw [hnm]; exact C.2.2.2.2.2.2.1 _ (mz_tb (mz_ini _ hown) rfl)) hd1.2 (mz_room C g1), C.2.2.2.2.2.2.1 _ (mz_tb g4 rfl), by rw [← hnm]; exact C.2.2.2.2.2.2.1 _ (mz_tb g5 rfl)⟩ ⟨mz_blind, hrc, hpre⟩ rfl (by rw [List.length_map, hal2]) h3.1 rfl (lv_room (Nat.le_trans (mz_sz _) hsz)) hd ⟨C.2.2.2.2.2.2.2.2.2.1.1, C.2.2.2.2.2.2.2.2.2.1.2⟩) h2 fin
end MZS
