/-! ===== the class reads a formula's statement; a whole statement ===== -/
def dForm (D : m_D) (q a n : Nat) : m_D := (D.1, D.2.1, D.2.2.1, fun q' => if q' = q then some (a, n) else D.2.2.2 q')
def FOK (G : m_G) (T : Nat → Int) (L b q e : Nat) (D : m_D) (CC : List Int) (r : PR (m_D × List Int)) : Prop := match r with
  | .inl x => RDF G T L b q (if q = 1 ∨ q = 2 then 1 else 0) e CC x.1 x.2
  | .inr y => ∃ E, y.2 = (dForm D q CC.length E.length, CC ++ E) ∧ RDS G T L b q (if q = 1 ∨ q = 2 then 1 else 0) e CC y.1 (CC ++ E)
section FO
variable {G : m_G} {T : Nat → Int} {L t b q e : Nat} {D : m_D} {CC : List Int}
theorem x_form {d : Nat} {μ : m_M} (ht : t = 32 ∨ t = 33) (hq : q < 4) (hN : NN t μ) (h : CX T L t D CC e μ) {K : m_M → Prop} (kk : ∀ μ1 r, ofD t μ μ1 → μ1 t 0 10 = μ t 0 10 → CO T L t μ1 r → FOK G T L b q e D CC r → K μ1) : ∀ μ1 : m_M, μ1 = m_up μ 2 0 2 (261 + (q : Int)) → ∃ t2 : Nat, μ1 2 0 1 = 100 * (t2 : Int) ∧ m_cls t2 = 9 ∧ c_v G (d + 84) YX10_beginFormula [vR t2 0, vI (261 + (q : Int))] μ1 (fun μ3 => ((261 + (q : Int) = 261) → c_v G (d + 84) YX6_readSum [vR 2 0] μ3 (fun μ4 => ∃ t5 : Nat, μ4 2 0 1 = 100 * (t5 : Int) ∧ m_cls t5 = 9 ∧ c_v G (d + 84) YX10_endFormula [vR t5 0, vI (261 + (q : Int))] μ4 (fun μ6 => K μ6))) ∧ ((¬ 261 + (q : Int) = 261) → ((¬ 261 + (q : Int) = 264) → c_v G (d + 84) YX6_readTest [vR 2 0] μ3 (fun μ4 => ∃ t5 : Nat, μ4 2 0 1 = 100 * (t5 : Int) ∧ m_cls t5 = 9 ∧ c_v G (d + 84) YX10_endFormula [vR t5 0, vI (261 + (q : Int))] μ4 (fun μ6 => K μ6))) ∧ ((261 + (q : Int) = 264) → c_v G (d + 84) YX6_readSum [vR 2 0] μ3 (fun μ4 => ∃ t5 : Nat, μ4 2 0 1 = 100 * (t5 : Int) ∧ m_cls t5 = 9 ∧ c_v G (d + 84) YX10_endFormula [vR t5 0, vI (261 + (q : Int))] μ4 (fun μ6 => K μ6))))) := by
  have hw : w32 (261 + (q : Int) - 261) = (q : Int) := by rw [w32_le (by omega) (by omega)]; omega
  intro μ1 e1
  have f1 : ∀ x y z, ¬ (x = 2 ∧ y = 0 ∧ z = 2) → μ1 x y z = μ x y z := fun x y z a => by rw [e1, m_up_ne _ _ a]
  refine ⟨t, by rw [f1 2 0 1 (by omega)]; exact h.h21, cls9 ht, EX10_beginFormula (cls9 ht) (EX10_isFormula (d := d + 82) ⟨fun z => by omega, fun _ => ⟨fun z => by omega, fun _ => ⟨z1, fun _ => ?_⟩⟩⟩)⟩
  rw [hw, Int.toNat_natCast]
  refine ⟨⟨by omega, by omega⟩, fun μ3 e3 => ?_⟩
  have f3 : ∀ x y z, ¬ (x = 2 ∧ y = 0 ∧ z = 2) → ¬ (x = t ∧ y = 14 ∧ z = q) → μ3 x y z = μ x y z := fun x y z a1 a2 => by rw [e3, m_up_ne _ _ a2]; exact f1 x y z a1
  have v3 : μ3 t 14 q = μ t 0 12 := by rw [e3, m_up_at]; exact f1 t 0 12 (by omega)
  have w3 : μ3 2 0 2 = 261 + (q : Int) := by rw [e3, m_up_ne _ _ (by omega), e1, m_up_at]
  have n3 : NN t μ3 := by unfold NN; rw [f3 t 0 3 (by omega) (by omega), f3 t 0 6 (by omega) (by omega)]; exact hN
  have fD3 : ofD t μ μ3 := fun x y z a b _ => f3 x y z (by omega) (by omega)
  -- the end
  have fin : ∀ (μ4 : m_M) (r : PR (m_D × List Int)), ofC t μ3 μ4 → μ4 2 0 1 = 100 * (t : Int) → (∀ μ5 : m_M, μ5 = m_up μ4 t 15 q (μ4 t 0 12) → match r with
      | .inl x => CF t x.1 x.2 μ5
      | .inr y => CX T L t y.2.1 y.2.2 y.1 μ5) → FOK G T L b q e D CC r → ∃ t5 : Nat, μ4 2 0 1 = 100 * (t5 : Int) ∧ m_cls t5 = 9 ∧ c_v G (d + 84) YX10_endFormula [vR t5 0, vI (261 + (q : Int))] μ4 (fun μ6 => K μ6) := fun μ4 r f4 h21 hr ho => by
    refine ⟨t, h21, cls9 ht, EX10_endFormula (cls9 ht) (EX10_isFormula (d := d + 82) ⟨fun z => by omega, fun _ => ⟨fun z => by omega, fun _ => ⟨z1, fun _ => ?_⟩⟩⟩)⟩
    rw [hw, Int.toNat_natCast]
    refine ⟨⟨by omega, by omega⟩, fun μ5 e5 => ?_⟩
    have f5 : ∀ x y z, ¬ (x = t ∧ y = 15 ∧ z = q) → μ5 x y z = μ4 x y z := fun x y z a => by rw [e5, m_up_ne _ _ a]
    refine kk μ5 r (fD3.tr ((ofD.c f4).tr (fun x y z a _ _ => f5 x y z (by omega)))) ?_ ⟨?_, hr μ5 e5⟩ ho
    · rw [f5 t 0 10 (by omega), f4 t 0 10 (by omega) (by omega) (by omega)]; exact f3 t 0 10 (by omega) (by omega)
    · unfold NN
      rw [f5 t 0 3 (by omega), f5 t 0 6 (by omega), f4 t 0 3 (by omega) (by omega) (by omega), f4 t 0 6 (by omega) (by omega) (by omega)]
      exact n3
  -- the sum or the test
  have body : ((¬ (q = 1 ∨ q = 2)) → c_v G (d + 84) YX6_readSum [vR 2 0] μ3 (fun μ4 => ∃ t5 : Nat, μ4 2 0 1 = 100 * (t5 : Int) ∧ m_cls t5 = 9 ∧ c_v G (d + 84) YX10_endFormula [vR t5 0, vI (261 + (q : Int))] μ4 (fun μ6 => K μ6))) ∧ ((q = 1 ∨ q = 2) → c_v G (d + 84) YX6_readTest [vR 2 0] μ3 (fun μ4 => ∃ t5 : Nat, μ4 2 0 1 = 100 * (t5 : Int) ∧ m_cls t5 = 9 ∧ c_v G (d + 84) YX10_endFormula [vR t5 0, vI (261 + (q : Int))] μ4 (fun μ6 => K μ6))) := by
    rcases h with ⟨hf, h⟩ | ⟨hf, h⟩
    · obtain ⟨⟨hB, _, h1, h3'⟩, ⟨h12, hC, hl⟩, ⟨hP, hW⟩, he, h7, hT⟩ := h
      have hB3 : CB T L μ3 := by
        obtain ⟨⟨a, b⟩, c, d, e⟩ := hB
        exact ⟨⟨by rw [f3 3 0 1 (by omega) (by omega)]; exact a, by rw [f3 3 0 2 (by omega) (by omega)]; exact b⟩, fun i hi => by rw [f3 1 1 i (by omega) (by omega)]; exact c i hi, fun i hi => by rw [f3 3 1 i (by omega) (by omega)]; exact d i hi, e⟩
      have hs : CS T L t q μ3 e 0 CC := by
        refine ⟨⟨hB3, ht, ⟨by rw [f3 2 0 1 (by omega) (by omega)]; exact h1, w3, by rw [f3 2 0 3 (by omega) (by omega)]; exact h3'⟩, by rw [f3 t 0 12 (by omega) (by omega)]; exact h12, ?_⟩, he, by rw [f3 3 0 7 (by omega) (by omega)]; exact h7, ?_⟩
        · rw [codeL_congr (g := μ t 12) _ _ (fun i _ _ => f3 t 12 i (by omega) (by omega))]; exact hC
        · unfold TK at hT ⊢
          rw [f3 3 0 5 (by omega) (by omega), f3 3 0 4 (by omega) (by omega), f3 3 0 3 (by omega) (by omega), f3 3 0 6 (by omega) (by omega), f3 3 0 8 (by omega) (by omega)]; exact hT
      refine c_formula (b := b) hq hs hl (fun μ4 e' E f4 h4 lt rds ty hE cnt => ?_) (fun μ4 k p f4 g4 rf => ?_)
      · refine fin μ4 (.inr (e', (dForm D q CC.length E.length, CC ++ E))) f4 h4.1.2.2.1.1 (fun μ5 e5 => ?_) ⟨E, rfl, rds⟩
        have v4 : μ4 t 0 12 = ((CC ++ E).length : Int) := h4.1.2.2.2.1
        rw [v4] at e5
        have f5 : ∀ x y z, ¬ (x = t ∧ y = 15 ∧ z = q) → μ5 x y z = μ4 x y z := fun x y z a => by rw [e5, m_up_ne _ _ a]
        have g5 : ∀ y z, ¬ y = 12 → ¬ (y = 0 ∧ z = 12) → ¬ (y = 14 ∧ z = q) → ¬ (y = 15 ∧ z = q) → μ5 t y z = μ t y z := fun y z a1 a2 a3 a4 => by rw [f5 t y z (by omega), f4 t y z (by omega) (by omega) (by omega)]; exact f3 t y z (by omega) (by omega)
        show CX T L t (dForm D q CC.length E.length) (CC ++ E) e' μ5
        have hT4 := h4.2.2.2
        obtain ⟨⟨hB4, _, ⟨h21, h22, h23⟩, h12', hC'⟩, he', h7', _⟩ := h4
        obtain ⟨p1, p2, p3, p6⟩ := hP
        obtain ⟨q1, q2, q3, q6⟩ := hW
        have el : 0 < E.length := by
          cases E with
          | nil => exact absurd rfl hE
          | cons x r => simp
        refine Or.inl ⟨hT4.1, ⟨?_, ht, by rw [f5 2 0 1 (by omega)]; exact h21, by rw [f5 2 0 3 (by omega)]; exact h23⟩, ⟨by rw [f5 t 0 12 (by omega)]; exact h12', ?_, cnt⟩, ⟨⟨⟨?_, fun i x hx => ?_⟩, ⟨?_, fun i x hx => ?_⟩, ?_, fun j hj => ?_⟩, q1, q2, q3, fun j y hy => ?_⟩, he', by rw [f5 3 0 7 (by omega)]; exact h7', ?_⟩
        · obtain ⟨⟨a, b⟩, c, d, e⟩ := hB4
          exact ⟨⟨by rw [f5 3 0 1 (by omega)]; exact a, by rw [f5 3 0 2 (by omega)]; exact b⟩, fun i hi => by rw [f5 1 1 i (by omega)]; exact c i hi, fun i hi => by rw [f5 3 1 i (by omega)]; exact d i hi, e⟩
        · rw [codeL_congr (g := μ4 t 12) _ _ (fun i _ _ => f5 t 12 i (by omega))]; exact hC'
        · rw [g5 0 3 (by omega) (by omega) (by omega) (by omega)]; exact p1.1
        · rw [g5 1 i (by omega) (by omega) (by omega) (by omega), g5 2 i (by omega) (by omega) (by omega) (by omega), g5 3 i (by omega) (by omega) (by omega) (by omega)]; exact p1.2 i x hx
        · rw [g5 0 6 (by omega) (by omega) (by omega) (by omega)]; exact p2.1
        · rw [g5 5 i (by omega) (by omega) (by omega) (by omega), g5 6 i (by omega) (by omega) (by omega) (by omega)]; exact p2.2 i x hx
        · rw [g5 0 7 (by omega) (by omega) (by omega) (by omega), g5 0 8 (by omega) (by omega) (by omega) (by omega), g5 0 9 (by omega) (by omega) (by omega) (by omega)]; exact p3
        · by_cases yj : j = q
          · subst yj
            have dj : (dForm D j CC.length E.length).2.2.2 j = some (CC.length, E.length) := if_pos rfl
            rw [dj]
            refine ⟨(fun z => nomatch z), fun y hy => ?_⟩
            cases hy
            refine ⟨?_, ?_⟩
            · rw [f5 t 14 j (by omega), f4 t 14 j (by omega) (by omega) (by omega), v3]; exact h12
            · rw [e5, m_up_at, List.length_append]
          · have dj : (dForm D q CC.length E.length).2.2.2 j = D.2.2.2 j := if_neg yj
            rw [dj, g5 14 j (by omega) (by omega) (by omega) (by omega), g5 15 j (by omega) (by omega) (by omega) (by omega)]
            exact p6 j hj
        · by_cases yj : j = q
          · subst yj
            have dj : (dForm D j CC.length E.length).2.2.2 j = some (CC.length, E.length) := if_pos rfl
            rw [dj] at hy
            cases hy
            refine ⟨hq, el, by rw [List.length_append]; exact Nat.le_refl _, ?_⟩
            show tcs j (((CC ++ E).drop CC.length).take E.length) [] = _
            rw [List.drop_left, List.take_length]
            exact ty
          · have dj : (dForm D q CC.length E.length).2.2.2 j = D.2.2.2 j := if_neg yj
            rw [dj] at hy
            obtain ⟨k1, k2, k3, k4⟩ := q6 j y hy
            refine ⟨k1, k2, by rw [List.length_append]; omega, ?_⟩
            rw [List.drop_append_of_le_length (by omega), List.take_append_of_le_length (by rw [List.length_drop]; omega)]
            exact k4
        · unfold TK at hT4 ⊢
          rw [f5 3 0 5 (by omega), f5 3 0 4 (by omega), f5 3 0 3 (by omega), f5 3 0 6 (by omega), f5 3 0 8 (by omega)]; exact hT4
      · refine fin μ4 (.inl (k, p)) f4 g4.2.1.1 (fun μ5 e5 => ?_) rf
        exact g4.tw (fun x y z a => by rw [e5, m_up_ne _ _ (by omega)])
    · have h3 : CF t 1 (tLf T L e) μ3 := by
        refine ⟨ht, ⟨by rw [f3 2 0 1 (by omega) (by omega)]; exact h.2.1.1, by rw [f3 t 0 12 (by omega) (by omega)]; exact h.2.1.2⟩, ?_⟩
        rw [f3 3 0 7 (by omega) (by omega), f3 3 0 8 (by omega) (by omega), f3 3 0 4 (by omega) (by omega)]; exact h.2.2
      have go : ∀ μ4, ofC t μ3 μ4 → CF t 1 (tLf T L e) μ4 → ∃ t5 : Nat, μ4 2 0 1 = 100 * (t5 : Int) ∧ m_cls t5 = 9 ∧ c_v G (d + 84) YX10_endFormula [vR t5 0, vI (261 + (q : Int))] μ4 (fun μ6 => K μ6) := fun μ4 f4 g4 => by
        refine fin μ4 (.inl (1, tLf T L e)) f4 g4.2.1.1 (fun μ5 e5 => ?_) ?_
        · exact g4.tw (fun x y z a => by rw [e5, m_up_ne _ _ (by omega)])
        · exact rdf_of (kd := if (if q = 1 ∨ q = 2 then (1 : Int) else 0) = 0 then 0 else 1) rfl (rdL0 ⟨hq, by decide, by decide, by decide⟩ hf)
      exact ⟨fun _ => f_sum (d := d + 79) h3 go, fun _ => f_test (d := d + 75) h3 go⟩
  exact ⟨fun z => body.1 (by omega), fun z => ⟨fun z2 => body.2 (by omega), fun z2 => body.1 (by omega)⟩⟩
end FO
