theorem S_town {G : m_G} : SIM G YX11_town YX12_town [] := by
  intro d μ ⟨A, t, s, b, h⟩
  obtain ⟨r1, r2, r3, r4, r5, r6, r7, r8, r9⟩ := h
  obtain ⟨L, hL, l1, l34, hT⟩ := r4
  obtain ⟨c1, c2, ⟨t1, t2⟩, hts, c5, c6⟩ := r1
  have hs : s = 32 ∨ s = 33 := by omega
  have ht : t = 32 ∨ t = 33 := by omega
  have hb : b ≤ 1 := c2.2.1
  have h13 : μ 34 0 13 = (b : Int) := c2.1
  have hnc : tw_nc A ≤ 8 := c1.2.2.2.1.1
  have hnk : tw_nk A ≤ 3 := c1.2.2.2.1.2.1
  obtain ⟨c, hbb⟩ : ∃ c, b + c = 1 := ⟨1 - b, by omega⟩
  refine EX11_town ⟨s, t2, cls9 hs, ?_⟩
  rw [l1]
  refine c_parse (d := d + 11) (b := c) (T := fun i => μ 34 1 i) hs hL hT r9 (fun μ1 R f1 pt ce μ2 e2 => EX6_faultKind (fun μ3 e3 => EX6_faultPlace (fun μ4 e4 => ?_)))
  have g4 : ∀ x y z, ¬ (x = 1 ∧ y = 0 ∧ (z = 1 ∨ z = 14 ∨ z = 15)) → μ4 x y z = μ1 x y z := fun x y z a => by rw [e4, m_up_ne _ _ (by omega), e3, m_up_ne _ _ (by omega), e2, m_up_ne _ _ (by omega)]
  have f4 : ∀ x y z, ¬ x = s → ¬ (x = 2 ∧ y = 0) → ¬ (x = 3 ∧ y = 0) → ¬ (x = 1 ∧ y = 0 ∧ (z = 1 ∨ z = 14 ∨ z = 15)) → μ4 x y z = μ x y z := fun x y z a1 a2 a3 a4 => (g4 x y z a4).trans (f1 x y z a1 a2 a3)
  have v1 : μ4 1 0 1 = 0 := by rw [e4, m_up_ne _ _ (by omega), e3, m_up_ne _ _ (by omega), e2, m_up_at]
  have v14 : μ4 1 0 14 = μ1 3 0 7 := by rw [e4, m_up_ne _ _ (by omega), e3, m_up_at, e2, m_up_ne _ _ (by omega)]
  have v15 : μ4 1 0 15 = μ1 3 0 8 := by rw [e4, m_up_at, e3, m_up_ne _ _ (by omega), e2, m_up_ne _ _ (by omega)]
  cases R with
  | inl x =>
    have ce : CF s x.1 x.2 μ1 := ce
    refine ⟨fun z => absurd rfl z, fun _ => EX11_refuseWithNone ⟨by decide, by decide, fun μ5 e5 => ?_⟩⟩
    have e5 : μ5 = m_up μ4 1 13 1 (w32 (μ4 1 13 1 + 1)) := e5
    have f5 : ∀ x y z, ¬ x = s → ¬ (x = 2 ∧ y = 0) → ¬ (x = 3 ∧ y = 0) → ¬ (x = 1 ∧ ((y = 0 ∧ (z = 1 ∨ z = 14 ∨ z = 15)) ∨ (y = 13 ∧ z = 1))) → μ5 x y z = μ x y z := fun x y z a1 a2 a3 a4 => by rw [e5, m_up_ne _ _ (by omega)]; exact f4 x y z a1 a2 a3 (by omega)
    refine m_town (d := d + 91) (T := fun i => μ 34 1 i) (L := L) hbb ?_ hL ?_ (fun i hi => ⟨(hT i hi).1, f5 34 1 i (by omega) (by omega) (by omega) (by omega)⟩) pt (fun x' hx μ6 f6 z1 z10 z11 z13 => ?_) (fun y hy => by cases hy)
    · rw [f5 34 0 13 (by omega) (by omega) (by omega) (by omega)]; exact h13
    · rw [f5 34 0 1 (by omega) (by omega) (by omega) (by omega)]; exact l34
    cases hx
    refine EX12_refuses ⟨by decide, by decide, fun μ7 e7 => ⟨rfl, A, t, s, b, ?_⟩⟩
    have e7 : μ7 = m_up μ6 34 42 1 (w32 (μ6 34 42 1 + 1)) := e7
    have cl : ∀ x y z, ¬ x = 34 → μ7 x y z = μ5 x y z := fun x y z a => by rw [e7, m_up_ne _ _ (fun q => a q.1), f6 x y z (fun q => a q.1)]
    have ob : ∀ x y z, ¬ x = 34 → ¬ x = s → ¬ x = 1 → ¬ (x = 2 ∧ y = 0) → ¬ (x = 3 ∧ y = 0) → μ7 x y z = μ x y z := fun x y z a0 a1 a2 a3 a4 => by rw [cl x y z a0, f5 x y z a1 a3 a4 (by omega)]
    have mo : ∀ y z, ¬ inU c y z → ¬ (y = 42 ∧ z = 1) → μ7 34 y z = μ 34 y z := fun y z a1 a2 => by
      rw [e7, m_up_ne _ _ (fun q => a2 ⟨q.2.1, q.2.2⟩), f6 34 y z (fun q => a1 q.2), f5 34 y z (by omega) (fun q => absurd q.1 (by decide)) (fun q => absurd q.1 (by decide)) (fun q => absurd q.1 (by decide))]
    have nU : ∀ y z, (y = 0 ∧ 41 ≤ z) ∨ y = 42 ∨ 43 ≤ y → ¬ inU c y z := fun y z h => by unfold inU; omega
    have oo : ∀ x, 4 ≤ x → x ≤ 31 → μ7 x = μ x := fun x a1 a2 => by
      funext y z
      exact ob x y z (by omega) (by omega) (by omega) (by omega) (by omega)
    have ot : ∀ y z, μ7 t y z = μ t y z := fun y z => ob t y z (by omega) (by omega) (by omega) (by omega) (by omega)
    have k1 : ∀ z, ¬ (z = 1 ∨ z = 14 ∨ z = 15) → μ7 1 0 z = μ 1 0 z := fun z a => by rw [cl 1 0 z (by omega), f5 1 0 z (by omega) (by omega) (by omega) (by omega)]
    have k5 : ∀ z, μ7 1 0 z = μ4 1 0 z := fun z => by rw [cl 1 0 z (by omega), e5, m_up_ne _ _ (by omega)]
    refine ⟨⟨c1.mv (by rw [oo 4 (by omega) (by omega)]) ot, c2.mvb (by rw [e7, m_up_ne _ _ (by omega), z13, h13]) (fun x c hx => mo x c (by unfold inU; omega) (by omega)), ⟨by rw [k1 2 (by omega)]; exact t1, by rw [k1 3 (by omega)]; exact t2⟩, hts, fun i hi => ?_, fun i hi => ?_⟩, ?_, ?_, ?_, ?_, ?_, ?_, ?_, ?_⟩
    · rw [ot, mo 27 _ (by unfold inU; omega) (by omega)]; exact c5 i hi
    · rw [ot, mo 28 _ (by unfold inU; omega) (by omega)]; exact c6 i hi
    · exact r2.mv (oo 10 (by omega) (by omega)) (fun y z hyz => mo y z (nU y z (by omega)) (by omega))
    · obtain ⟨c, n, f, hb3, ⟨q1, q2, q3, q4⟩, hk⟩ := r3
      refine ⟨c, n, f, hb3, ⟨by rw [oo 6 (by omega) (by omega)]; exact q1, by rw [oo 6 (by omega) (by omega)]; exact q2, by rw [mo 0 53 (nU _ _ (by omega)) (by omega)]; exact q3, by rw [mo 0 52 (nU _ _ (by omega)) (by omega)]; exact q4⟩, fun k hkc => (hk k hkc).mv (oo _ (by omega) (by omega)) (fun y z hyz => mo y z (nU y z (by omega)) (by omega))⟩
    · refine ⟨0, by omega, by rw [k5]; exact v1, by rw [e7, m_up_ne _ _ (by omega)]; exact z1, fun i hi => by omega⟩
    · obtain ⟨q1, q2, q3⟩ := r5
      refine ⟨by rw [k1 13 (by omega), mo 0 54 (nU _ _ (by omega)) (by omega)]; exact q1, ⟨?_, ?_⟩, fun i hi => ?_⟩
      · rw [k5, v14, e7, m_up_ne _ _ (by omega), z10]; exact ce.2.2.1.symm
      · rw [k5, v15, e7, m_up_ne _ _ (by omega), z11]; exact ce.2.2.2.2.1.symm
      · by_cases y : i = 1
        · subst y
          rw [cl 1 13 1 (by omega), e5, m_up_at, e7, m_up_at, f6 34 42 1 (fun q => absurd q.2 (nU _ _ (by omega))), f5 34 42 1 (by omega) (by omega) (by omega) (by omega), f4 1 13 1 (by omega) (by omega) (by omega) (by omega), q3 1 (by omega)]
        · rw [cl 1 13 i (by omega), f5 1 13 i (by omega) (by omega) (by omega) (by omega), mo 42 i (nU _ _ (by omega)) (by omega)]; exact q3 i hi
    · obtain ⟨n, hn, q1, q2, hi⟩ := r6
      refine ⟨n, hn, by rw [oo 8 (by omega) (by omega)]; exact q1, by rw [mo 0 60 (nU _ _ (by omega)) (by omega)]; exact q2, fun i h => by rw [oo 8 (by omega) (by omega), mo 62 i (nU _ _ (by omega)) (by omega), mo 63 i (nU _ _ (by omega)) (by omega), mo 64 i (nU _ _ (by omega)) (by omega)]; exact hi i h⟩
    · unfold R_best; rw [oo 7 (by omega) (by omega), oo 10 (by omega) (by omega)]; exact r7
    · obtain ⟨n, hn, q1, q2, hi⟩ := r8
      exact ⟨n, hn, by rw [oo 9 (by omega) (by omega)]; exact q1, by rw [mo 0 66 (nU _ _ (by omega)) (by omega)]; exact q2, fun i h => by rw [oo 9 (by omega) (by omega), mo 66 i (nU _ _ (by omega)) (by omega)]; exact hi i h⟩
    · intro i hi; rw [ob 3 1 i (by omega) (by omega) (by omega) (by omega) (by omega)]; exact r9 i hi
  | inr y =>
    obtain ⟨⟨e, cu⟩, y10, y80⟩ : (∃ e, CU (fun i => μ 34 1 i) L s y.2.1 y.2.2 e μ1) ∧ μ1 s 0 10 = (y.1 : Int) ∧ y.1 ≤ 80 := ce
    obtain ⟨_, ⟨_, uC, ul⟩, ⟨uP, uW⟩, ue, u7, uT⟩ := cu
    have u8 : μ1 3 0 8 = -1 := uT.2.2.2.2.2.2
    have h7 : μ1 s 0 7 = tw_stock (dT y.2.1 y.2.2) := uP.2.2.1.1
    have q2 : μ4 1 0 2 = 100 * (t : Int) := by rw [f4 1 0 2 (by omega) (by omega) (by omega) (by omega)]; exact t1
    have q3 : μ4 1 0 3 = 100 * (s : Int) := by rw [f4 1 0 3 (by omega) (by omega) (by omega) (by omega)]; exact t2
    refine ⟨fun _ => ?_, fun z => absurd (show (1 : Int) = 0 from z) (by decide)⟩
    refine ⟨t, q2, cls9 ht, s, q3, cls9 hs, fun ν1 n1 ν2 n2 => ?_⟩
    refine ⟨s, by rw [n2, m_up_ne _ _ (by omega), n1, m_up_at]; omega, cls9 hs, fun ν3 n3 => ?_⟩
    refine ⟨s, by rw [n3, m_up_ne _ _ (by omega), n2, m_up_ne _ _ (by omega), n1, m_up_at]; omega, cls9 hs, ?_⟩
    refine c_begin (d := d + 97) (A := dT y.2.1 y.2.2) (o := 10) (t := s) rfl (cls9 hs) (by rw [n3, m_up_ne _ _ (by omega), n2, m_up_ne _ _ (by omega), n1, m_up_ne _ _ (by omega), g4 s 0 7 (by omega)]; exact h7) (fun ν4 f4' bq ν5 n5 ν6 n6 => ?_)
    refine EX1_forget (fun ν7 n7 => ?_)
    refine ⟨s, by rw [n7, m_up_ne _ _ (by omega), n6, m_up_ne _ _ (by omega), n5, m_up_ne _ _ (by omega), f4' 1 0 2 (by omega), n3, m_up_ne _ _ (by omega), n2, m_up_ne _ _ (by omega), n1, m_up_at]; omega, cls9 hs, ?_⟩
    have g7 : ∀ x y z, ¬ (x = 1 ∧ y = 0 ∧ (z = 2 ∨ z = 3)) → ¬ (x = 4 ∧ y = 0 ∧ z = 0) → ¬ x = 10 → ¬ (x = 8 ∧ y = 0 ∧ z = 0) → ¬ (x = 6 ∧ y = 0 ∧ z = 2) → ¬ (x = 7 ∧ y = 0 ∧ z = 3) → ν7 x y z = μ4 x y z := fun x y z a1 a2 a3 a4 a5 a6 => by
      rw [n7, m_up_ne _ _ a6, n6, m_up_ne _ _ a5, n5, m_up_ne _ _ a4, f4' x y z a3, n3, m_up_ne _ _ a2, n2, m_up_ne _ _ (by omega), n1, m_up_ne _ _ (by omega)]
    have m7 : ∀ y z, ν7 34 y z = μ 34 y z := fun y z => by rw [g7 34 y z (by omega) (by omega) (by omega) (by omega) (by omega) (by omega), f4 34 y z (by omega) (by omega) (by omega) (by omega)]
    have ns : ∀ y z, ν7 s y z = μ1 s y z := fun y z => by rw [g7 s y z (by omega) (by omega) (by omega) (by omega) (by omega) (by omega), g4 s y z (by omega)]
    have c102 : ν7 1 0 2 = 100 * (s : Int) := by rw [n7, m_up_ne _ _ (by omega), n6, m_up_ne _ _ (by omega), n5, m_up_ne _ _ (by omega), f4' 1 0 2 (by omega), n3, m_up_ne _ _ (by omega), n2, m_up_ne _ _ (by omega), n1, m_up_at]; omega
    have c103 : ν7 1 0 3 = 100 * (t : Int) := by rw [n7, m_up_ne _ _ (by omega), n6, m_up_ne _ _ (by omega), n5, m_up_ne _ _ (by omega), f4' 1 0 3 (by omega), n3, m_up_ne _ _ (by omega), n2, m_up_at]; omega
    have c400 : ν7 4 0 0 = 100 * (s : Int) := by rw [n7, m_up_ne _ _ (by omega), n6, m_up_ne _ _ (by omega), n5, m_up_ne _ _ (by omega), f4' 4 0 0 (by omega), n3, m_up_at]; omega
    have c703 : ν7 7 0 3 = -1 := by rw [n7, m_up_at]
    have c602 : ν7 6 0 2 = 0 := by rw [n7, m_up_ne _ _ (by omega), n6, m_up_at]
    have c800 : ν7 8 0 0 = 0 := by rw [n7, m_up_ne _ _ (by omega), n6, m_up_ne _ _ (by omega), n5, m_up_at]
    have c10 : ν7 10 = ν4 10 := by
      funext y z
      rw [n7, m_up_ne _ _ (by omega), n6, m_up_ne _ _ (by omega), n5, m_up_ne _ _ (by omega)]
    rw [ns 0 10, y10]
    refine m_town (d := d + 91) (T := fun i => μ 34 1 i) (L := L) hbb ?_ hL ?_ (fun i hi => ⟨(hT i hi).1, m7 1 i⟩) pt (fun x hx => by cases hx) (fun y' hy ν8 f8 z1 z10 z11 z13 zP zC => ?_)
    · rw [m7]; exact h13
    · rw [m7]; exact l34
    cases hy
    refine m_begin (d := d + 98) (b := c) (A := dT y.2.1 y.2.2) z13 (by omega) zP.2.2.1.1 (fun ν9 f9 bq9 n49 n53 n60 => ⟨rfl, dT y.2.1 y.2.2, s, t, c, ?_⟩)
    have cl : ∀ x y z, ¬ x = 34 → ν9 x y z = ν7 x y z := fun x y z a => by rw [f9 x y z (fun q => a q.1), f8 x y z (fun q => a q.1)]
    have co : ∀ x, ¬ x = 34 → ν9 x = ν7 x := fun x a => by funext y z; exact cl x y z a
    have nU : ∀ y z, (y = 0 ∧ 41 ≤ z) ∨ y = 42 ∨ 53 ≤ y → ¬ inU c y z := fun y z h => by unfold inU; omega
    have g9 : ∀ y z, (y = 0 ∧ 41 ≤ z ∧ z ≠ 53 ∧ z ≠ 60) ∨ y = 42 ∨ 53 ≤ y → ν9 34 y z = μ 34 y z := fun y z a => by rw [f9 34 y z (by omega), f8 34 y z (fun q => nU y z (by omega) q.2), m7]
    have uP9 : CPd ν9 s y.2.1 := uP.cg (fun y z _ _ _ => by rw [cl s y z (by omega), ns])
    have uC9 : codeL (ν9 s 12) 0 y.2.2.length = y.2.2 := by rw [codeL_congr (g := μ1 s 12) _ _ (fun i _ _ => by rw [cl s 12 i (by omega), ns])]; exact uC
    have zP9 : MPd ν9 c y.2.1 := zP.cg (fun y z a1 a2 _ => f9 34 y z (by omega))
    have zC9 : CDS c ν9 y.2.2 := zC.cg (f9 34 0 28 (by omega)) (fun z => ⟨f9 34 25 z (by omega), f9 34 26 z (by omega)⟩)
    have bb : ν9 10 = ν4 10 := by rw [co 10 (by omega), c10]
    have s0 : ∀ z, z ≠ 2 → z ≠ 3 → ν9 1 0 z = μ4 1 0 z := fun z a1 a2 => by rw [cl 1 0 z (by omega), g7 1 0 z (by omega) (by omega) (by omega) (by omega) (by omega) (by omega)]
    refine ⟨⟨CT_D hs (by rw [cl 4 0 0 (by omega)]; exact c400) uP9 uW uC9 (by omega), MT_D (by rw [f9 34 0 13 (by omega)]; exact z13) (by omega) zP9 uW zC9 (by omega), ⟨by rw [cl 1 0 2 (by omega)]; exact c102, by rw [cl 1 0 3 (by omega)]; exact c103⟩, by omega, fun i hi => ?_, fun i hi => ?_⟩, ⟨?_, ?_, ?_⟩, ?_, ?_, ?_, ?_, ?_, ?_, ?_⟩
    · have hi : i < y.2.1.1.length := hi
      have q1 := (uP9.1.2 i _ (List.getElem?_eq_getElem hi)).1
      have q2 := (zP9.1.2 i _ (List.getElem?_eq_getElem hi)).1
      exact ⟨_, (uW.1.2 _ (List.getElem_mem hi)).1, q1, q2⟩
    · have hi : i < y.2.1.2.1.length := hi
      have q1 := (uP9.2.1.2 i _ (List.getElem?_eq_getElem hi)).1
      have q2 := (zP9.2.1.2 i _ (List.getElem?_eq_getElem hi)).1
      exact ⟨_, (uW.2.1.2 _ (List.getElem_mem hi)).1, q1, q2⟩
    · rw [bb]; exact bq.sy.BI (BI.new (TA_D uW))
    · rw [bb]; exact (bq9.toKn (fun _ i _ => ⟨rfl, rfl, rfl⟩)).tr bq.sy
    · rw [n49]; decide
    · obtain ⟨c, n, f, ⟨_, hn, hf⟩, ⟨_, q2, _, q4⟩, _⟩ := r3
      refine ⟨0, n, f, ⟨by omega, hn, hf⟩, ⟨by rw [cl 6 0 2 (by omega)]; exact c602, ?_, n53, by rw [g9 0 52 (by omega)]; exact q4⟩, fun k hk => by omega⟩
      rw [cl 6 0 1 (by omega), g7 6 0 1 (by omega) (by omega) (by omega) (by omega) (by omega) (by omega), f4 6 0 1 (by omega) (by omega) (by omega) (by omega)]; exact q2
    · refine ⟨0, by omega, by rw [s0 1 (by omega) (by omega)]; exact v1, by rw [f9 34 0 1 (by omega)]; exact z1, fun i hi => by omega⟩
    · obtain ⟨q1, q2, q3⟩ := r5
      refine ⟨?_, ⟨?_, ?_⟩, fun i hi => ?_⟩
      · rw [s0 13 (by omega) (by omega), f4 1 0 13 (by omega) (by omega) (by omega) (by omega), g9 0 54 (by omega)]; exact q1
      · rw [s0 14 (by omega) (by omega), v14, u7, f9 34 0 10 (by omega)]; exact z10
      · rw [s0 15 (by omega) (by omega), v15, u8, f9 34 0 11 (by omega)]; exact z11
      · rw [g9 42 i (by omega), cl 1 13 i (by omega), g7 1 13 i (by omega) (by omega) (by omega) (by omega) (by omega) (by omega), f4 1 13 i (by omega) (by omega) (by omega) (by omega)]; exact q3 i hi
    · exact ⟨0, by omega, by rw [cl 8 0 0 (by omega)]; exact c800, n60, fun i hi => by omega⟩
    · exact Or.inl (by rw [cl 7 0 3 (by omega)]; exact c703)
    · obtain ⟨n, hn, q1, q2, hi⟩ := r8
      have o9 : ∀ y z, ν9 9 y z = μ 9 y z := fun y z => by rw [cl 9 y z (by omega), g7 9 y z (by omega) (by omega) (by omega) (by omega) (by omega) (by omega), f4 9 y z (by omega) (by omega) (by omega) (by omega)]
      exact ⟨n, hn, by rw [o9]; exact q1, by rw [g9 0 66 (by omega)]; exact q2, fun i h => by rw [o9, g9 66 i (by omega)]; exact hi i h⟩
    · intro i hi
      rw [cl 3 1 i (by omega), g7 3 1 i (by omega) (by omega) (by omega) (by omega) (by omega) (by omega), f4 3 1 i (by omega) (by omega) (by omega) (by omega)]; exact r9 i hi
