/-! ===== the class reads a child, a kiln, a number of the yard ===== -/
theorem sB_r {α β : Type} (y : Nat × α) (f : Nat → α → PR β) : sB (.inr y) f = f y.1 y.2 := rfl
theorem sB_l {α β : Type} (x : Int × Int) (f : Nat → α → PR β) : sB (.inl x : PR α) f = .inl x := rfl
def NN (t : Nat) (μ : m_M) : Prop := 0 ≤ μ t 0 3 ∧ 0 ≤ μ t 0 6
theorem tk282 {T : Nat → Int} {L e : Nat} (he : e ≤ L) (hT : ∀ i, i < L → 0 ≤ T i ∧ T i ≤ 255) (hf : tLf T L e = -1) (ht : 256 ≤ tTk T L e ∧ tTk T L e ≤ 282) : isNm (tNm T L e) := by
  by_cases h : L ≤ tAt T L e
  · rw [tk_end h] at ht; omega
  have hL : tAt T L e < L := by omega
  by_cases hl : isLt (T (tAt T L e)) = true
  · exact (tNm_ok he hL hl hf).1
  · by_cases hd : isDg (T (tAt T L e)) = true
    · rw [tk_nu hL (bool_f hl) hd] at ht; omega
    · rw [tk_sg hL (bool_f hl) (bool_f hd)] at ht
      have := hT _ hL
      omega
section CH
variable {G : m_G} {T : Nat → Int} {L t e : Nat} {D : m_D} {CC : List Int}
theorem NN.r3 {μ μ1 : m_M} (h : NN t μ) (ht : t = 32 ∨ t = 33) (f : of3 μ μ1) : NN t μ1 := by
  unfold NN
  rw [f t 0 3 (by omega), f t 0 6 (by omega)]
  exact h
theorem x_name {d : Nat} {μ : m_M} (h : CX T L t D CC e μ) {K : Int → m_M → Prop} (kk : ∀ r μ1, of3 μ μ1 → COut T L t D CC μ1 (sName T L D e) → (∀ y, sName T L D e = .inr y → r = (nm27 y.2 5 : Int) ∧ isNm y.2) → K r μ1) : c_i G (d + 4) YX6_newName [vR 2 0] μ K := by
  refine EX6_newName (fun x1 ex => ?_)
  rcases h with ⟨hf, h⟩ | ⟨hf, h⟩
  · have hT := h.2.2.2.2.2
    have nb : ¬ tLf T L e ≠ -1 := fun y => y hf
    rw [hT.2.2.1, hT.2.1]
    refine ⟨fun z => ?_, fun z => u_fail h (by decide) (fun μ1 f1 g1 => kk _ μ1 f1 ?_ ?_)⟩
    · have v6 := hT.2.2.2.2.2.1 (by omega)
      have hn := tk282 h.2.2.2.1 (fun i hi => (h.1.1.2.1 i hi).1) hf (by omega)
      rw [v6] at ex
      subst ex
      have n2 : ¬ tTk T L e ≠ 282 := fun y => y z
      refine ⟨t, h.1.2.2.1, cls9 h.1.2.1, x_knows (d := d + 2) h hn ?_⟩
      by_cases hd : dHas D (tNm T L e) = true
      · have sn : sName T L D e = .inl (2, (tAt T L e : Int)) := by unfold sName; rw [if_neg nb, if_neg n2, if_pos hd]
        rw [if_pos hd, hT.2.1]
        exact ⟨z1, fun _ => u_fail h (by decide) (fun μ1 f1 g1 => kk _ μ1 f1 (by rw [sn]; exact g1) (fun y hy => by rw [sn] at hy; cases hy))⟩
      · have sn : sName T L D e = .inr (tEn T L e, tNm T L e) := by unfold sName; rw [if_neg nb, if_neg n2, if_neg hd]
        rw [if_neg hd]
        exact ⟨fun _ => u_next h (by omega) (fun μ1 f1 g1 => kk _ μ1 f1 (by rw [sn]; exact g1) (fun y hy => by rw [sn] at hy; cases hy; exact ⟨rfl, hn⟩)), z0⟩
    · unfold sName; rw [if_neg nb, if_pos z]; exact g1
    · intro y hy; unfold sName at hy; rw [if_neg nb, if_pos z] at hy; cases hy
  · rw [h.2.2.2.2.2]
    refine ⟨fun z => absurd z (by decide), fun _ => c_fail2 (by rw [h.2.2.1]; exact h.2.2.2.1) h.2.2.2.2.2 (kk _ μ (of3.rf μ) ?_ ?_)⟩
    · unfold sName; rw [if_pos hf]; exact h
    · intro y hy; unfold sName at hy; rw [if_pos hf] at hy; cases hy
theorem f_name {d : Nat} {μ : m_M} {k p : Int} (h : CF t k p μ) {K : Int → m_M → Prop} (kk : ∀ r, K r μ) : c_i G (d + 4) YX6_newName [vR 2 0] μ K := by
  refine EX6_newName (fun x1 ex => ?_)
  rw [h.2.2.2.2.2]
  exact ⟨fun z => absurd z (by decide), fun _ => c_fail2 (by rw [h.2.2.1]; exact h.2.2.2.1) h.2.2.2.2.2 (kk _)⟩
/-- writes in the town alone -/
theorem CF.tw {μ μ1 : m_M} {k p : Int} (h : CF t k p μ) (f : ∀ x y z, ¬ (x = t ∧ ¬ (y = 0 ∧ z = 12)) → μ1 x y z = μ x y z) : CF t k p μ1 := by
  have ht := h.1
  refine ⟨ht, ⟨?_, ?_⟩, ?_⟩
  · rw [f 2 0 1 (by omega)]; exact h.2.1.1
  · rw [f t 0 12 (by omega)]; exact h.2.1.2
  · rw [f 3 0 7 (by omega), f 3 0 8 (by omega), f 3 0 4 (by omega)]; exact h.2.2
theorem CX.tw {μ μ1 : m_M} {D1 : m_D} (h : CX T L t D CC e μ) (f : ∀ x y z, ¬ (x = t ∧ ¬ y = 12 ∧ ¬ (y = 0 ∧ z = 12)) → μ1 x y z = μ x y z) (hp : CPd μ t D → WFd D CC → CPd μ1 t D1 ∧ WFd D1 CC) : CX T L t D1 CC e μ1 := by
  rcases h with ⟨hf, h⟩ | ⟨hf, h⟩
  · refine Or.inl ⟨hf, ?_⟩
    obtain ⟨⟨hB, ht, h1, h3'⟩, ⟨h12, hC, hl⟩, ⟨hP, hW⟩, he, h7, hT⟩ := h
    refine ⟨⟨?_, ht, ?_, ?_⟩, ⟨?_, ?_, hl⟩, hp hP hW, he, ?_, ?_⟩
    · obtain ⟨⟨a, b⟩, c, d, e⟩ := hB
      exact ⟨⟨by rw [f 3 0 1 (by omega)]; exact a, by rw [f 3 0 2 (by omega)]; exact b⟩, fun i hi => by rw [f 1 1 i (by omega)]; exact c i hi, fun i hi => by rw [f 3 1 i (by omega)]; exact d i hi, e⟩
    · rw [f 2 0 1 (by omega)]; exact h1
    · rw [f 2 0 3 (by omega)]; exact h3'
    · rw [f t 0 12 (by omega)]; exact h12
    · rw [codeL_congr (g := μ t 12) _ _ (fun i _ _ => f t 12 i (by omega))]; exact hC
    · rw [f 3 0 7 (by omega)]; exact h7
    · unfold TK at hT ⊢
      rw [f 3 0 5 (by omega), f 3 0 4 (by omega), f 3 0 3 (by omega), f 3 0 6 (by omega), f 3 0 8 (by omega)]; exact hT
  · exact Or.inr ⟨hf, h.tw (fun x y z a => f x y z (by omega))⟩
theorem NN.up {μ : m_M} (h : NN t μ) {y z : Nat} {v : Int} (hv : y = 0 → (z = 3 ∨ z = 6) → 0 ≤ v) : NN t (m_up μ t y z v) := by
  refine ⟨?_, ?_⟩
  · by_cases q : y = 0 ∧ z = 3
    · rw [q.1, q.2, m_up_at]; exact hv q.1 (Or.inl q.2)
    · rw [m_up_ne _ _ (by omega)]; exact h.1
  · by_cases q : y = 0 ∧ z = 6
    · rw [q.1, q.2, m_up_at]; exact hv q.1 (Or.inr q.2)
    · rw [m_up_ne _ _ (by omega)]; exact h.2
/-- a child is written down, whatever the reader says -/
theorem c_addChild {d : Nat} {μ : m_M} (ht : t = 32 ∨ t = 33) (hN : NN t μ) {a b c : Int} {K : m_M → Prop} (kk : ∀ μ1, NN t μ1 → μ1 t 0 10 = μ t 0 10 → (∀ x y z, ¬ (x = t ∧ ¬ y = 12 ∧ ¬ (y = 0 ∧ z = 12)) → μ1 x y z = μ x y z) → (∀ n : Nat, μ t 0 3 = (n : Int) → n < 8 → μ1 t 0 3 = ((n + 1 : Nat) : Int) ∧ μ1 t 1 n = a ∧ μ1 t 2 n = b ∧ μ1 t 3 n = c ∧ ∀ y z, ¬ ((y = 1 ∨ y = 2 ∨ y = 3) ∧ z = n) → ¬ (y = 0 ∧ z = 3) → μ1 t y z = μ t y z) → K μ1) : c_v G (d + 1) YX10_addChild [vR t 0, vI a, vI b, vI c] μ K := by
  refine EX10_addChild (cls9 ht) ⟨fun z => kk μ hN rfl (fun _ _ _ _ => rfl) (fun n h1 h2 => by omega), fun z => ⟨⟨hN.1, by omega⟩, fun μ1 e1 => ?_⟩⟩
  obtain ⟨n, hn⟩ : ∃ n : Nat, μ t 0 3 = (n : Int) := ⟨(μ t 0 3).toNat, by have := hN.1; omega⟩
  rw [hn, Int.toNat_natCast] at e1
  have v1 : μ1 t 0 3 = (n : Int) := by rw [e1, m_up_ne _ _ (by omega)]; exact hn
  rw [v1, Int.toNat_natCast]
  refine ⟨⟨by omega, by omega⟩, fun μ2 e2 => ?_⟩
  have v2 : μ2 t 0 3 = (n : Int) := by rw [e2, m_up_ne _ _ (by omega)]; exact v1
  rw [v2, Int.toNat_natCast]
  refine ⟨⟨by omega, by omega⟩, fun μ3 e3 μ4 e4 => ?_⟩
  have v3 : μ3 t 0 3 = (n : Int) := by rw [e3, m_up_ne _ _ (by omega)]; exact v2
  rw [v3, w32_s (by omega)] at e4
  have f : ∀ x y z, ¬ (x = t ∧ (((y = 1 ∨ y = 2 ∨ y = 3) ∧ z = n) ∨ (y = 0 ∧ z = 3))) → μ4 x y z = μ x y z := fun x y z q => by rw [e4, m_up_ne _ _ (by omega), e3, m_up_ne _ _ (by omega), e2, m_up_ne _ _ (by omega), e1, m_up_ne _ _ (by omega)]
  refine kk μ4 ⟨?_, ?_⟩ (f t 0 10 (by omega)) (fun x y z q => f x y z (by omega)) (fun n' h1 h2 => ?_)
  · rw [e4, m_up_at]; omega
  · rw [f t 0 6 (by omega)]; exact hN.2
  · have : n' = n := by omega
    subst this
    refine ⟨by rw [e4, m_up_at], ?_, ?_, ?_, fun y z q1 q2 => f t y z (by omega)⟩
    · rw [e4, m_up_ne _ _ (by omega), e3, m_up_ne _ _ (by omega), e2, m_up_ne _ _ (by omega), e1, m_up_at]
    · rw [e4, m_up_ne _ _ (by omega), e3, m_up_ne _ _ (by omega), e2, m_up_at]
    · rw [e4, m_up_ne _ _ (by omega), e3, m_up_at]
theorem c_addKiln {d : Nat} {μ : m_M} (ht : t = 32 ∨ t = 33) (hN : NN t μ) {a b : Int} {K : m_M → Prop} (kk : ∀ μ1, NN t μ1 → μ1 t 0 10 = μ t 0 10 → (∀ x y z, ¬ (x = t ∧ ¬ y = 12 ∧ ¬ (y = 0 ∧ z = 12)) → μ1 x y z = μ x y z) → (∀ n : Nat, μ t 0 6 = (n : Int) → n < 3 → μ1 t 0 6 = ((n + 1 : Nat) : Int) ∧ μ1 t 5 n = a ∧ μ1 t 6 n = b ∧ ∀ y z, ¬ ((y = 5 ∨ y = 6) ∧ z = n) → ¬ (y = 0 ∧ z = 6) → μ1 t y z = μ t y z) → K μ1) : c_v G (d + 1) YX10_addKiln [vR t 0, vI a, vI b] μ K := by
  refine EX10_addKiln (cls9 ht) ⟨fun z => kk μ hN rfl (fun _ _ _ _ => rfl) (fun n h1 h2 => by omega), fun z => ⟨⟨hN.2, by omega⟩, fun μ1 e1 => ?_⟩⟩
  obtain ⟨n, hn⟩ : ∃ n : Nat, μ t 0 6 = (n : Int) := ⟨(μ t 0 6).toNat, by have := hN.2; omega⟩
  rw [hn, Int.toNat_natCast] at e1
  have v1 : μ1 t 0 6 = (n : Int) := by rw [e1, m_up_ne _ _ (by omega)]; exact hn
  rw [v1, Int.toNat_natCast]
  refine ⟨⟨by omega, by omega⟩, fun μ2 e2 μ4 e4 => ?_⟩
  have v2 : μ2 t 0 6 = (n : Int) := by rw [e2, m_up_ne _ _ (by omega)]; exact v1
  rw [v2, w32_s (by omega)] at e4
  have f : ∀ x y z, ¬ (x = t ∧ (((y = 5 ∨ y = 6) ∧ z = n) ∨ (y = 0 ∧ z = 6))) → μ4 x y z = μ x y z := fun x y z q => by rw [e4, m_up_ne _ _ (by omega), e2, m_up_ne _ _ (by omega), e1, m_up_ne _ _ (by omega)]
  refine kk μ4 ⟨?_, ?_⟩ (f t 0 10 (by omega)) (fun x y z q => f x y z (by omega)) (fun n' h1 h2 => ?_)
  · rw [f t 0 3 (by omega)]; exact hN.1
  · rw [e4, m_up_at]; omega
  · have : n' = n := by omega
    subst this
    refine ⟨by rw [e4, m_up_at], ?_, ?_, fun y z q1 q2 => f t y z (by omega)⟩
    · rw [e4, m_up_ne _ _ (by omega), e2, m_up_ne _ _ (by omega), e1, m_up_at]
    · rw [e4, m_up_ne _ _ (by omega), e2, m_up_at]
def CO (T : Nat → Int) (L t : Nat) (μ : m_M) (r : PR (m_D × List Int)) : Prop := NN t μ ∧ match r with
  | .inl x => CF t x.1 x.2 μ
  | .inr y => CX T L t y.2.1 y.2.2 y.1 μ
theorem x_child {d : Nat} {μ : m_M} (ht : t = 32 ∨ t = 33) (hN : NN t μ) (hd : D.1.length < 8) (h : CX T L t D CC e μ) {K : m_M → Prop} (kk : ∀ μ1, ofD t μ μ1 → μ1 t 0 10 = μ t 0 10 → CO T L t μ1 (sB (sChild T L D e) (fun e x => .inr (e, ((D.1 ++ [x], D.2), CC)))) → K μ1) : c_v G (d + 5) YX6_readChild [vR 2 0] μ K := by
  -- behind a fault the child is written down too
  have fin : ∀ (μ1 : m_M) (x : Int × Int) (r2 r6 r10 : Int), of3 μ μ1 → CF t x.1 x.2 μ1 → sChild T L D e = .inl x → c_v G (d + 4) YX10_addChild [vR t 0, vI r2, vI r6, vI r10] μ1 K := fun μ1 x r2 r6 r10 f1 g1 hs => by
    refine c_addChild (d := d + 3) ht (hN.r3 ht f1) (fun μ2 n2 c2 f2 _ => kk μ2 ((ofD.r3 f1).tr (fun x y z a _ _ => f2 x y z (by omega))) (c2.trans (f1 t 0 10 (by omega))) ⟨n2, ?_⟩)
    rw [hs]
    exact g1.tw (fun x y z a => f2 x y z (by omega))
  refine EX6_readChild (x_name h (fun r2 μ1 f1 o1 v1 => ?_))
  cases s1 : sName T L D e with
  | inl x =>
    rw [s1] at o1
    have o1 : CF t x.1 x.2 μ1 := o1
    have hs : sChild T L D e = .inl x := by simp only [sChild, s1, sB_r, sB_l]
    exact f_expect (d := d + 2) o1 (by decide) (f_num o1 (f_expect (d := d + 2) o1 (by decide) (f_num o1 ⟨t, o1.2.1.1, cls9 ht, fin μ1 x _ _ _ f1 o1 hs⟩)))
  | inr y1 =>
    rw [s1] at o1
    have o1 : CX T L t D CC y1.1 μ1 := o1
    have v1 := v1 y1 s1
    refine x_exp (by decide) o1 (fun μ2 f2 o2 => ?_)
    cases s2 : sExp T L 257 y1.1 with
    | inl x =>
      rw [s2] at o2
      have o2 : CF t x.1 x.2 μ2 := o2
      have hs : sChild T L D e = .inl x := by simp only [sChild, s1, s2, sB_r, sB_l]
      exact f_num o2 (f_expect (d := d + 2) o2 (by decide) (f_num o2 ⟨t, o2.2.1.1, cls9 ht, fin μ2 x _ _ _ (f1.tr f2) o2 hs⟩))
    | inr y2 =>
      rw [s2] at o2
      have o2 : CX T L t D CC y2.1 μ2 := o2
      refine x_num o2 (fun r6 μ3 f3 o3 v3 => ?_)
      cases s3 : sNum T L 0 99 y2.1 with
      | inl x =>
        rw [s3] at o3
        have o3 : CF t x.1 x.2 μ3 := o3
        have hs : sChild T L D e = .inl x := by simp only [sChild, s1, s2, s3, sB_r, sB_l]
        exact f_expect (d := d + 2) o3 (by decide) (f_num o3 ⟨t, o3.2.1.1, cls9 ht, fin μ3 x _ _ _ (f1.tr (f2.tr f3)) o3 hs⟩)
      | inr y3 =>
        rw [s3] at o3
        have o3 : CX T L t D CC y3.1 μ3 := o3
        have v3 := v3 y3 s3
        refine x_exp (by decide) o3 (fun μ4 f4 o4 => ?_)
        cases s4 : sExp T L 258 y3.1 with
        | inl x =>
          rw [s4] at o4
          have o4 : CF t x.1 x.2 μ4 := o4
          have hs : sChild T L D e = .inl x := by simp only [sChild, s1, s2, s3, s4, sB_r, sB_l]
          exact f_num o4 ⟨t, o4.2.1.1, cls9 ht, fin μ4 x _ _ _ (f1.tr (f2.tr (f3.tr f4))) o4 hs⟩
        | inr y4 =>
          rw [s4] at o4
          have o4 : CX T L t D CC y4.1 μ4 := o4
          refine x_num o4 (fun r10 μ5 f5 o5 v5 => ?_)
          have f15 : of3 μ μ5 := f1.tr (f2.tr (f3.tr (f4.tr f5)))
          cases s5 : sNum T L 0 9 y4.1 with
          | inl x =>
            rw [s5] at o5
            have o5 : CF t x.1 x.2 μ5 := o5
            have hs : sChild T L D e = .inl x := by simp only [sChild, s1, s2, s3, s4, s5, sB_r, sB_l]
            exact ⟨t, o5.2.1.1, cls9 ht, fin μ5 x _ _ _ f15 o5 hs⟩
          | inr y5 =>
            rw [s5] at o5
            have o5 : CX T L t D CC y5.1 μ5 := o5
            have v5 := v5 y5 s5
            have hs : sChild T L D e = .inr (y5.1, (y1.2, y3.2, y5.2)) := by simp only [sChild, s1, s2, s3, s4, s5, sB_r, sB_l]
            have h21 : μ5 2 0 1 = 100 * (t : Int) := by
              rcases o5 with ⟨_, o⟩ | ⟨_, o⟩
              · exact o.1.2.2.1
              · exact o.2.1.1
            have b3 : 0 ≤ y3.2 ∧ y3.2 ≤ 99 := by
              unfold sNum at s3
              split at s3
              · cases s3
              · split at s3
                · cases s3
                · split at s3
                  · cases s3
                  · cases s3; show 0 ≤ tVal _ _ _ ∧ _; omega
            have b5 : 0 ≤ y5.2 ∧ y5.2 ≤ 9 := by
              unfold sNum at s5
              split at s5
              · cases s5
              · split at s5
                · cases s5
                · split at s5
                  · cases s5
                  · cases s5; show 0 ≤ tVal _ _ _ ∧ _; omega
            refine ⟨t, h21, cls9 ht, c_addChild (d := d + 3) ht (hN.r3 ht f15) (fun μ6 n6 c6 f6 w6 => kk μ6 ((ofD.r3 f15).tr (fun x y z a _ _ => f6 x y z (by omega))) (c6.trans (f15 t 0 10 (by omega))) ⟨n6, ?_⟩)⟩
            rw [hs]
            refine CX.tw (D := D) o5 f6 (fun hP hW => ?_)
            obtain ⟨⟨p1, p2⟩, p3, p4, p5⟩ := hP
            obtain ⟨q1, q2, q3, q4, q5⟩ := w6 D.1.length p1 hd
            refine ⟨⟨⟨?_, fun i x hx => ?_⟩, ⟨?_, fun i x hx => ?_⟩, ?_, fun q hq => ?_⟩, ⟨⟨?_, fun x hx => ?_⟩, hW.2⟩⟩
            · show μ6 t 0 3 = (((D.1 ++ [_]).length : Nat) : Int)
              rw [q1, List.length_append]; rfl
            · have hx : (D.1 ++ [(y1.2, y3.2, y5.2)])[i]? = some x := hx
              by_cases hi : i < D.1.length
              · rw [List.getElem?_append_left hi] at hx
                rw [q5 1 i (by omega) (by omega), q5 2 i (by omega) (by omega), q5 3 i (by omega) (by omega)]
                exact p2 i x hx
              · have hi2 : i = D.1.length := by
                  have := (List.getElem?_eq_some_iff.1 hx).1
                  rw [List.length_append] at this
                  simp at this
                  omega
                subst hi2
                rw [List.getElem?_append_right (Nat.le_refl _), Nat.sub_self] at hx
                cases hx
                rw [q2, q3, q4]
                exact ⟨v1.1, v3, v5⟩
            · rw [q5 0 6 (by omega) (by omega)]; exact p3.1
            · rw [q5 5 i (by omega) (by omega), q5 6 i (by omega) (by omega)]; exact p3.2 i x hx
            · rw [q5 0 7 (by omega) (by omega), q5 0 8 (by omega) (by omega), q5 0 9 (by omega) (by omega)]; exact p4
            · rw [q5 14 q (by omega) (by omega), q5 15 q (by omega) (by omega)]; exact p5 q hq
            · show (D.1 ++ [_]).length ≤ 8
              rw [List.length_append]; show D.1.length + 1 ≤ 8; omega
            · rcases List.mem_append.1 hx with z | z
              · exact hW.1.2 x z
              · rw [List.mem_singleton.1 z]; exact ⟨v1.2, b3, b5⟩
end CH
