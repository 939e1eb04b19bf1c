/-! ===== a told text: both sides have the same town ===== -/
theorem codeL_drop (f : Nat → Int) : ∀ (a n s : Nat), a ≤ n → (codeL f s n).drop a = codeL f (s + a) (n - a) := by
  intro a
  induction a with
  | zero => intro n s _; rfl
  | succ a ih =>
    intro n s h
    cases n with
    | zero => omega
    | succ n =>
      show (codeL f (s + 1) n).drop a = _
      rw [ih n (s + 1) (by omega), show s + 1 + a = s + (a + 1) by omega, show n + 1 - (a + 1) = n - a by omega]
theorem codeL_take (f : Nat → Int) : ∀ (m n s : Nat), m ≤ n → (codeL f s n).take m = codeL f s m := by
  intro m
  induction m with
  | zero => intro n s _; rfl
  | succ m ih =>
    intro n s h
    cases n with
    | zero => omega
    | succ n =>
      show f s :: (codeL f (s + 1) n).take m = f s :: codeL f (s + 1) m
      rw [ih n (s + 1) (by omega)]
theorem codeL_sub {f : Nat → Int} {s n a m : Nat} {CC : List Int} (h : codeL f s n = CC) (hn : a + m ≤ n) : codeL f (s + a) m = (CC.drop a).take m := by
  rw [← h, codeL_drop f a n s (by omega), codeL_take f m (n - a) (s + a) (by omega)]
def dT (D : m_D) (CC : List Int) : m_T := ((D.1.length, D.2.1.length), (fun i => match D.1[i]? with | some x => x.2.1 | none => 0), (fun i => match D.1[i]? with | some x => x.2.2 | none => 0), (fun i => match D.2.1[i]? with | some x => x.2 | none => 0), D.2.2.1, fun q => if q < 4 then (D.2.2.2 q).map (fun y => (CC.drop y.1).take y.2) else none)
section DT
variable {t b : Nat} {D : m_D} {CC : List Int} {μ : m_M}
theorem at_c_D (hP : CPd μ t D) (hW : WFd D CC) (hC : codeL (μ t 12) 0 CC.length = CC) : at_c (μ t) = dT D CC := by
  obtain ⟨⟨a1, a2⟩, ⟨b1, b2⟩, ⟨c1, c2, c3⟩, dd⟩ := hP
  have n3 : (μ t 0 3).toNat = D.1.length := by rw [a1, Int.toNat_natCast]
  have n6 : (μ t 0 6).toNat = D.2.1.length := by rw [b1, Int.toNat_natCast]
  have e1 : (fun i => if i < D.1.length then μ t 2 i else 0) = (fun i => match D.1[i]? with | some x => x.2.1 | none => 0) := by
    funext i
    by_cases hi : i < D.1.length
    · rw [if_pos hi, List.getElem?_eq_getElem hi]; exact (a2 i _ (List.getElem?_eq_getElem hi)).2.1
    · rw [if_neg hi, List.getElem?_eq_none (by omega)]
  have e2 : (fun i => if i < D.1.length then μ t 3 i else 0) = (fun i => match D.1[i]? with | some x => x.2.2 | none => 0) := by
    funext i
    by_cases hi : i < D.1.length
    · rw [if_pos hi, List.getElem?_eq_getElem hi]; exact (a2 i _ (List.getElem?_eq_getElem hi)).2.2
    · rw [if_neg hi, List.getElem?_eq_none (by omega)]
  have e3 : (fun i => if i < D.2.1.length then μ t 6 i else 0) = (fun i => match D.2.1[i]? with | some x => x.2 | none => 0) := by
    funext i
    by_cases hi : i < D.2.1.length
    · rw [if_pos hi, List.getElem?_eq_getElem hi]; exact (b2 i _ (List.getElem?_eq_getElem hi)).2
    · rw [if_neg hi, List.getElem?_eq_none (by omega)]
  have e4 : law_c (μ t) = (fun q => if q < 4 then (D.2.2.2 q).map (fun y => (CC.drop y.1).take y.2) else none) := by
    funext q
    unfold law_c
    by_cases hq : q < 4
    · rw [if_pos (c := q < 4) hq]
      cases hD : D.2.2.2 q with
      | none =>
        have := (dd q hq).1 hD
        rw [if_neg (by omega)]; rfl
      | some y =>
        have h1 := (dd q hq).2 y hD
        have h2 := hW.2.2.2 q y hD
        rw [if_pos (by omega), h1.1, h1.2, Int.toNat_natCast, show (((y.1 + y.2 : Nat) : Int) - (y.1 : Int)).toNat = y.2 by omega]
        have := codeL_sub (a := y.1) (m := y.2) hC h2.2.2.1
        rw [Nat.zero_add] at this
        rw [this]; rfl
    · rw [if_neg (by omega), if_neg hq]
  show (((μ t 0 3).toNat, (μ t 0 6).toNat), (fun i => if i < (μ t 0 3).toNat then μ t 2 i else 0), (fun i => if i < (μ t 0 3).toNat then μ t 3 i else 0), (fun i => if i < (μ t 0 6).toNat then μ t 6 i else 0), (μ t 0 7, μ t 0 8, μ t 0 9), law_c (μ t)) = _
  rw [n3, n6, e1, e2, e3, e4, c1, c2, c3]
  rfl
theorem at_m_D (hP : MPd μ b D) (hW : WFd D CC) (hC : codeL (fun k => tk (μ 34 25 k) (μ 34 26 k)) (1600 * b) CC.length = CC) : at_m (μ 34) b = dT D CC := by
  obtain ⟨⟨a1, a2⟩, ⟨b1, b2⟩, ⟨c1, c2, c3⟩, dd⟩ := hP
  have n3 : (μ 34 15 b).toNat = D.1.length := by rw [a1, Int.toNat_natCast]
  have n6 : (μ 34 18 b).toNat = D.2.1.length := by rw [b1, Int.toNat_natCast]
  have e1 : (fun i => if i < D.1.length then μ 34 16 (8 * b + i) else 0) = (fun i => match D.1[i]? with | some x => x.2.1 | none => 0) := by
    funext i
    by_cases hi : i < D.1.length
    · rw [if_pos hi, List.getElem?_eq_getElem hi]; exact (a2 i _ (List.getElem?_eq_getElem hi)).2.1
    · rw [if_neg hi, List.getElem?_eq_none (by omega)]
  have e2 : (fun i => if i < D.1.length then μ 34 17 (8 * b + i) else 0) = (fun i => match D.1[i]? with | some x => x.2.2 | none => 0) := by
    funext i
    by_cases hi : i < D.1.length
    · rw [if_pos hi, List.getElem?_eq_getElem hi]; exact (a2 i _ (List.getElem?_eq_getElem hi)).2.2
    · rw [if_neg hi, List.getElem?_eq_none (by omega)]
  have e3 : (fun i => if i < D.2.1.length then μ 34 19 (3 * b + i) else 0) = (fun i => match D.2.1[i]? with | some x => x.2 | none => 0) := by
    funext i
    by_cases hi : i < D.2.1.length
    · rw [if_pos hi, List.getElem?_eq_getElem hi]; exact (b2 i _ (List.getElem?_eq_getElem hi)).2
    · rw [if_neg hi, List.getElem?_eq_none (by omega)]
  have e4 : law_m (μ 34) b = (fun q => if q < 4 then (D.2.2.2 q).map (fun y => (CC.drop y.1).take y.2) else none) := by
    funext q
    unfold law_m
    by_cases hq : q < 4
    · rw [if_pos (c := q < 4) hq]
      cases hD : D.2.2.2 q with
      | none =>
        have := (dd q hq).1 hD
        rw [if_neg (by omega)]; rfl
      | some y =>
        have h1 := (dd q hq).2 y hD
        have h2 := hW.2.2.2 q y hD
        rw [if_pos (by omega), h1.1, h1.2, Int.toNat_natCast, show (((y.1 + y.2 : Nat) : Int) - (y.1 : Int)).toNat = y.2 by omega]
        have := codeL_sub (a := y.1) (m := y.2) hC h2.2.2.1
        rw [this]; rfl
    · rw [if_neg (by omega), if_neg hq]
  show (((μ 34 15 b).toNat, (μ 34 18 b).toNat), (fun i => if i < (μ 34 15 b).toNat then μ 34 16 (8 * b + i) else 0), (fun i => if i < (μ 34 15 b).toNat then μ 34 17 (8 * b + i) else 0), (fun i => if i < (μ 34 18 b).toNat then μ 34 19 (3 * b + i) else 0), (μ 34 20 b, μ 34 21 b, μ 34 22 b), law_m (μ 34) b) = _
  rw [n3, n6, e1, e2, e3, e4, c1, c2, c3]
  rfl
theorem TA_D (hW : WFd D CC) : TA (dT D CC) := by
  obtain ⟨⟨w1, w2⟩, ⟨w3, w4⟩, ⟨w5, w6, w7⟩, w8⟩ := hW
  refine ⟨w1, w3, fun i hi => ?_, fun i hi => ?_, w5, w6, w7, fun q c hc => ?_⟩
  · have hi : i < D.1.length := hi
    have hm := w2 _ (List.getElem_mem hi)
    show (0 ≤ (match D.1[i]? with | some x => x.2.1 | none => 0) ∧ (match D.1[i]? with | some x => x.2.1 | none => 0) ≤ 99) ∧ 0 ≤ (match D.1[i]? with | some x => x.2.2 | none => 0) ∧ (match D.1[i]? with | some x => x.2.2 | none => 0) ≤ 9
    rw [List.getElem?_eq_getElem hi]
    exact hm.2
  · have hi : i < D.2.1.length := hi
    have hm := w4 _ (List.getElem_mem hi)
    show 1 ≤ (match D.2.1[i]? with | some x => x.2 | none => 0) ∧ (match D.2.1[i]? with | some x => x.2 | none => 0) ≤ 6
    rw [List.getElem?_eq_getElem hi]
    exact hm.2
  · have hc : (if q < 4 then (D.2.2.2 q).map (fun y => (CC.drop y.1).take y.2) else none) = some c := hc
    by_cases hq : q < 4
    · rw [if_pos hq] at hc
      cases hD : D.2.2.2 q with
      | none => rw [hD] at hc; cases hc
      | some y =>
        rw [hD] at hc
        cases hc
        exact ⟨hq, (w8 q y hD).2.2.2⟩
    · rw [if_neg hq] at hc; cases hc
theorem CT_D (ht : t = 32 ∨ t = 33) (h4 : μ 4 0 0 = 100 * (t : Int)) (hP : CPd μ t D) (hW : WFd D CC) (hC : codeL (μ t 12) 0 CC.length = CC) (hl : CC.length ≤ 1600) : CT μ t (dT D CC) := by
  refine ⟨cls9 ht, h4, at_c_D hP hW hC, TA_D hW, by rw [hP.1.1]; omega, by rw [hP.2.1.1]; omega, fun q hq => ?_⟩
  have dd := hP.2.2.2 q hq
  cases hD : D.2.2.2 q with
  | none => have := dd.1 hD; omega
  | some y =>
    have h1 := dd.2 y hD
    have h2 := hW.2.2.2 q y hD
    omega
theorem MT_D (h13 : μ 34 0 13 = (b : Int)) (hb : b ≤ 1) (hP : MPd μ b D) (hW : WFd D CC) (hC : CDS b μ CC) (hl : CC.length ≤ 1600) : MT μ b (dT D CC) := by
  refine ⟨h13, hb, at_m_D hP hW hC.2.1, TA_D hW, by rw [hP.1.1]; omega, by rw [hP.2.1.1]; omega, fun q hq hn => ?_⟩
  have dd := hP.2.2.2 q hq
  cases hD : D.2.2.2 q with
  | none => exact absurd (dd.1 hD) hn
  | some y =>
    have h1 := dd.2 y hD
    have h2 := (hW.2.2.2 q y hD).2.2.1
    rw [h1.1, h1.2]
    exact ⟨⟨by omega, by omega, by omega⟩, fun k k1 k2 => hC.2.2 k (by omega) (by omega)⟩
/-- the town of a bank stays, whatever is written into the other -/
theorem MT.mvb {μ1 : m_M} {A : m_T} (h : MT μ b A) (h13 : μ1 34 0 13 = μ 34 0 13) (f : ∀ x c, ((x = 15 ∨ x = 18 ∨ x = 20 ∨ x = 21 ∨ x = 22) ∧ c = b) ∨ ((x = 16 ∨ x = 17) ∧ 8 * b ≤ c ∧ c < 8 * b + 8) ∨ (x = 19 ∧ 3 * b ≤ c ∧ c < 3 * b + 3) ∨ ((x = 23 ∨ x = 24) ∧ 4 * b ≤ c ∧ c < 4 * b + 4) ∨ ((x = 25 ∨ x = 26) ∧ 1600 * b ≤ c ∧ c < 1600 * b + 1600) → μ1 34 x c = μ 34 x c) : MT μ1 b A := by
  obtain ⟨m1, m2, m3, m4, m5, m6, m7⟩ := h
  have f15 := f 15 b (by omega)
  have f18 := f 18 b (by omega)
  have f20 := f 20 b (by omega)
  have f21 := f 21 b (by omega)
  have f22 := f 22 b (by omega)
  have n8 : (μ 34 15 b).toNat ≤ 8 := by have := m4.1; rw [← m3] at this; exact this
  have n3 : (μ 34 18 b).toNat ≤ 3 := by have := m4.2.1; rw [← m3] at this; exact this
  have q23 : ∀ q, q < 4 → μ1 34 23 (4 * b + q) = μ 34 23 (4 * b + q) ∧ μ1 34 24 (4 * b + q) = μ 34 24 (4 * b + q) := fun q hq => ⟨f 23 _ (by omega), f 24 _ (by omega)⟩
  refine ⟨by rw [h13]; exact m1, m2, ?_, m4, by rw [f15]; exact m5, by rw [f18]; exact m6, fun q hq => ?_⟩
  · rw [← m3]
    have e1 : (fun i => if i < (μ 34 15 b).toNat then μ1 34 16 (8 * b + i) else 0) = (fun i => if i < (μ 34 15 b).toNat then μ 34 16 (8 * b + i) else 0) := by
      funext i
      by_cases hi : i < (μ 34 15 b).toNat
      · rw [if_pos hi, if_pos hi]; exact f 16 _ (by omega)
      · rw [if_neg hi, if_neg hi]
    have e2 : (fun i => if i < (μ 34 15 b).toNat then μ1 34 17 (8 * b + i) else 0) = (fun i => if i < (μ 34 15 b).toNat then μ 34 17 (8 * b + i) else 0) := by
      funext i
      by_cases hi : i < (μ 34 15 b).toNat
      · rw [if_pos hi, if_pos hi]; exact f 17 _ (by omega)
      · rw [if_neg hi, if_neg hi]
    have e3 : (fun i => if i < (μ 34 18 b).toNat then μ1 34 19 (3 * b + i) else 0) = (fun i => if i < (μ 34 18 b).toNat then μ 34 19 (3 * b + i) else 0) := by
      funext i
      by_cases hi : i < (μ 34 18 b).toNat
      · rw [if_pos hi, if_pos hi]; exact f 19 _ (by omega)
      · rw [if_neg hi, if_neg hi]
    have e4 : law_m (μ1 34) b = law_m (μ 34) b := by
      funext q
      unfold law_m
      by_cases hq : q < 4
      · rw [(q23 q hq).1, (q23 q hq).2]
        by_cases hn : μ 34 23 (4 * b + q) = -1
        · rw [if_neg (fun z => z.2 hn), if_neg (fun z => z.2 hn)]
        · have m7q := (m7 q hq hn).1
          rw [if_pos ⟨hq, hn⟩, if_pos ⟨hq, hn⟩, codeL_congr (g := fun k => tk (μ 34 25 k) (μ 34 26 k)) _ _ (fun i i1 i2 => by rw [f 25 i (by omega), f 26 i (by omega)])]
      · rw [if_neg (fun z => hq z.1), if_neg (fun z => hq z.1)]
    show (((μ1 34 15 b).toNat, (μ1 34 18 b).toNat), (fun i => if i < (μ1 34 15 b).toNat then μ1 34 16 (8 * b + i) else 0), (fun i => if i < (μ1 34 15 b).toNat then μ1 34 17 (8 * b + i) else 0), (fun i => if i < (μ1 34 18 b).toNat then μ1 34 19 (3 * b + i) else 0), (μ1 34 20 b, μ1 34 21 b, μ1 34 22 b), law_m (μ1 34) b) = _
    rw [f15, f18, f20, f21, f22, e1, e2, e3, e4]
    rfl
  · rw [(q23 q hq).1, (q23 q hq).2]
    intro hn
    have m7q := m7 q hq hn
    refine ⟨m7q.1, fun k k1 k2 => ?_⟩
    rw [f 25 k (by omega), f 26 k (by omega)]
    exact m7q.2 k k1 k2
/-- the reference begins a town -/
theorem m_begin {G : m_G} {d : Nat} {A : m_T} (h13 : μ 34 0 13 = (b : Int)) (hb : b ≤ 1) (h20 : μ 34 20 b = tw_stock A) {K : m_M → Prop} (kk : ∀ μ1, (∀ x y z, ¬ (x = 34 ∧ (((y = 43 ∨ y = 44 ∨ y = 49 ∨ y = 51) ∧ z = 0) ∨ ((45 ≤ y ∧ y ≤ 48) ∧ z < 8) ∨ (y = 50 ∧ z < 3) ∨ (y = 0 ∧ (z = 53 ∨ z = 60)))) → μ1 x y z = μ x y z) → beq (mB (μ1 34) 0) (p_new A) → μ1 34 49 0 = 0 → μ1 34 0 53 = 0 → μ1 34 0 60 = 0 → K μ1) : c_v G (d + 1) YX12_begin [vR 34 0] μ K := by
  refine EX12_begin (fun X C R μ1 e1 => ?_)
  have a13 : μ1 34 0 13 = (b : Int) := by rw [e1, m_up_ne _ _ (by omega)]; exact h13
  have a20 : μ1 34 20 b = tw_stock A := by rw [e1, m_up_ne _ _ (by omega)]; exact h20
  rw [a13, Int.toNat_natCast, a20]
  refine ⟨⟨by omega, by omega⟩, fun μ2 e2 μ3 e3 => ?_⟩
  have f3 : ∀ x y z, ¬ (x = 34 ∧ (y = 43 ∨ y = 44 ∨ y = 49) ∧ z = 0) → μ3 x y z = μ x y z := fun x y z a => by rw [e3, m_up_ne _ _ (by omega), e2, m_up_ne _ _ (by omega), e1, m_up_ne _ _ (by omega)]
  have v43 : μ3 34 43 0 = 0 := by rw [e3, m_up_ne _ _ (by omega), e2, m_up_ne _ _ (by omega), e1, m_up_at]
  have v44 : μ3 34 44 0 = tw_stock A := by rw [e3, m_up_ne _ _ (by omega), e2, m_up_at]
  have v49 : μ3 34 49 0 = 0 := by rw [e3, m_up_at]
  have at73 : ∀ (ν : m_M), (∀ x y z, ¬ (x = 34 ∧ (45 ≤ y ∧ y ≤ 48) ∧ z < 8) → ν x y z = μ3 x y z) → (∀ j, j < 8 → ν 34 45 j = -1 ∧ ν 34 46 j = -1 ∧ ν 34 47 j = -1 ∧ ν 34 48 j = 0) → ∀ (r i : Nat), i + r = 3 → ∀ μ4, (∀ x y z, ¬ (x = 34 ∧ y = 50 ∧ z < 3) → μ4 x y z = ν x y z) → (∀ j, j < i → μ4 34 50 j = -1) → mW G X YX12_begin μ4 73 [some (vR 34 0), some (vI (i : Int))] [] := by
    intro ν fν vν r
    induction r with
    | zero =>
      intro i hi μ4 f4 v4
      refine VX12_begin_73 C R ⟨fun _ μ5 e5 μ6 e6 μ7 e7 => ?_, fun z => absurd (by omega) z⟩
      have f7 : ∀ x y z, ¬ (x = 34 ∧ ((y = 51 ∧ z = 0) ∨ (y = 0 ∧ (z = 53 ∨ z = 60)))) → μ7 x y z = μ4 x y z := fun x y z a => by rw [e7, m_up_ne _ _ (by omega), e6, m_up_ne _ _ (by omega), e5, m_up_ne _ _ (by omega)]
      have g7 : ∀ y z, ¬ (y = 51 ∧ z = 0) → ¬ (y = 0 ∧ (z = 53 ∨ z = 60)) → ¬ (y = 50 ∧ z < 3) → μ7 34 y z = ν 34 y z := fun y z a1 a2 a3 => by rw [f7 34 y z (by omega), f4 34 y z (by omega)]
      have v51 : μ7 34 51 0 = 0 := by rw [e7, m_up_ne _ _ (by omega), e6, m_up_ne _ _ (by omega), e5, m_up_at]
      refine kk μ7 (fun x y z a => by rw [f7 x y z (by omega), f4 x y z (by omega), fν x y z (by omega), f3 x y z (by omega)]) ⟨⟨?_, ?_, ?_⟩, fun j hj => ⟨?_, ?_, ?_, ?_, ?_⟩, fun k hk => ?_, fun j hj => ?_⟩ ?_ ?_ ?_
      · rw [mB00, g7 43 0 (by omega) (by omega) (by omega), fν 34 43 0 (by omega)]; exact v43
      · rw [mB01, g7 44 0 (by omega) (by omega) (by omega), fν 34 44 0 (by omega)]; exact v44
      · rw [mB09]; exact v51
      · rw [mB3, g7 45 _ (by omega) (by omega) (by omega)]; exact (vν _ (by omega)).1
      · rw [mB4, g7 46 _ (by omega) (by omega) (by omega)]; exact (vν _ (by omega)).2.1
      · rw [mB5, g7 47 _ (by omega) (by omega) (by omega)]; exact (vν _ (by omega)).2.2.1
      · rw [mB6, g7 49 0 (by omega) (by omega) (by omega), fν 34 49 0 (by omega), v49, tb_0]; rfl
      · rw [mB7, g7 48 _ (by omega) (by omega) (by omega)]; exact (vν _ (by omega)).2.2.2
      · rw [mB8, f7 34 50 _ (by omega)]; exact v4 _ (by omega)
      · rw [mB09, v51] at hj; omega
      · rw [g7 49 0 (by omega) (by omega) (by omega), fν 34 49 0 (by omega)]; exact v49
      · rw [e7, m_up_ne _ _ (by omega), e6, m_up_at]
      · rw [e7, m_up_at]
    | succ r ih =>
      intro i hi μ4 f4 v4
      refine VX12_begin_73 C R ⟨fun z => absurd z (by omega), fun _ => ⟨⟨by omega, by omega⟩, fun μ5 e5 x5 ex => ?_⟩⟩
      rw [w32_s (by omega)] at ex
      subst ex
      rw [Int.toNat_natCast] at e5
      refine ih (i + 1) (by omega) μ5 (fun x y z a => by rw [e5, m_up_ne _ _ (by omega)]; exact f4 x y z a) (fun j hj => ?_)
      by_cases y : j = i
      · subst y; rw [e5, m_up_at]
      · rw [e5, m_up_ne _ _ (by omega)]; exact v4 j (by omega)
  have at31 : ∀ (r i : Nat), i + r = 8 → ∀ ν, (∀ x y z, ¬ (x = 34 ∧ (45 ≤ y ∧ y ≤ 48) ∧ z < 8) → ν x y z = μ3 x y z) → (∀ j, j < i → ν 34 45 j = -1 ∧ ν 34 46 j = -1 ∧ ν 34 47 j = -1 ∧ ν 34 48 j = 0) → mW G X YX12_begin ν 31 [some (vR 34 0), some (vI (i : Int))] [] := by
    intro r
    induction r with
    | zero =>
      intro i hi ν fν vν
      exact VX12_begin_31 C R ⟨fun _ => at73 ν fν (fun j hj => vν j (by omega)) 3 0 (by omega) ν (fun _ _ _ _ => rfl) (fun j hj => by omega), fun z => absurd (by omega) z⟩
    | succ r ih =>
      intro i hi ν fν vν
      refine VX12_begin_31 C R ⟨fun z => absurd z (by omega), fun _ => ?_⟩
      rw [Int.toNat_natCast]
      refine ⟨⟨by omega, by omega⟩, fun μ5 e5 => ⟨⟨by omega, by omega⟩, fun μ6 e6 => ⟨⟨by omega, by omega⟩, fun μ7 e7 => ⟨⟨by omega, by omega⟩, fun μ8 e8 x6 ex => ?_⟩⟩⟩⟩
      rw [w32_s (by omega)] at ex
      subst ex
      refine ih (i + 1) (by omega) μ8 (fun x y z a => by rw [e8, m_up_ne _ _ (by omega), e7, m_up_ne _ _ (by omega), e6, m_up_ne _ _ (by omega), e5, m_up_ne _ _ (by omega)]; exact fν x y z a) (fun j hj => ?_)
      by_cases y : j = i
      · subst y
        refine ⟨?_, ?_, ?_, ?_⟩
        · rw [e8, m_up_ne _ _ (by omega), e7, m_up_ne _ _ (by omega), e6, m_up_ne _ _ (by omega), e5, m_up_at]
        · rw [e8, m_up_ne _ _ (by omega), e7, m_up_ne _ _ (by omega), e6, m_up_at]
        · rw [e8, m_up_ne _ _ (by omega), e7, m_up_at]
        · rw [e8, m_up_at]
      · have k : ∀ y, μ8 34 y j = ν 34 y j := fun y => by rw [e8, m_up_ne _ _ (by omega), e7, m_up_ne _ _ (by omega), e6, m_up_ne _ _ (by omega), e5, m_up_ne _ _ (by omega)]
        rw [k 45, k 46, k 47, k 48]
        exact vν j (by omega)
  exact at31 8 0 (by omega) μ3 (fun _ _ _ _ => rfl) (fun j hj => by omega)
end DT
