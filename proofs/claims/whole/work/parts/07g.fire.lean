/-! ===== a bench: what its writes do ===== -/
/-- all objects but the machine and the object o are as they were -/
def ofo (o : Nat) (μ μ1 : m_M) : Prop := ∀ a b c, a ≠ 5 → a ≠ o → μ1 a b c = μ a b c
theorem ofo.rf (o : Nat) (μ : m_M) : ofo o μ μ := fun _ _ _ _ _ => rfl
theorem ofo.tr {o : Nat} {μ μ1 μ2 : m_M} (h : ofo o μ μ1) (h2 : ofo o μ1 μ2) : ofo o μ μ2 := fun a b c h5 ha => (h2 a b c h5 ha).trans (h a b c h5 ha)
theorem ofo.of5 {o : Nat} {μ μ1 : m_M} (h : off5 μ μ1) : ofo o μ μ1 := fun a b c h5 _ => h a b c h5
theorem ofo.up {o : Nat} {μ : m_M} {b c : Nat} {v : Int} : ofo o μ (m_up μ o b c v) := fun a b' c' _ ha => m_up_ne _ _ (fun z => ha z.1)
theorem CT.ofo {μ μ1 : m_M} {t o : Nat} {A : m_T} (h : CT μ t A) (ho : m_cls o = 0) (hf : ofo o μ μ1) : CT μ1 t A :=
  h.mv (hf 4 0 0 (by decide) (fun e => by rw [← e] at ho; exact absurd ho (by decide))) (fun b c => hf t b c (cls_ne h.1 (show m_cls 5 = 5 from rfl) (by decide)) (cls_ne h.1 ho (by decide)))
def bu (B : Nat → Nat → Int) (k i : Nat) (v : Int) : Nat → Nat → Int := fun a b => if a = k ∧ b = i then v else B a b
theorem bu_up (μ : m_M) (o k i : Nat) (v : Int) : m_up μ o k i v o = bu (μ o) k i v := by
  funext a b
  unfold m_up bu
  by_cases h : a = k ∧ b = i
  · rw [if_pos ⟨rfl, h⟩, if_pos h]
  · rw [if_neg (fun z => h z.2), if_neg h]
theorem bu_at (B : Nat → Nat → Int) (k i : Nat) (v : Int) : bu B k i v k i = v := if_pos ⟨rfl, rfl⟩
theorem bu_ne (B : Nat → Nat → Int) {k i a b : Nat} (v : Int) (h : ¬ (a = k ∧ b = i)) : bu B k i v a b = B a b := if_neg h
theorem c_takeOut {G : m_G} {d o c : Nat} (ho : m_cls o = 0) (hc : c < 8) {μ : m_M} {K : m_M → Prop} (h : ∀ μ1, ofo o μ μ1 → off5 μ1 μ1 → μ1 o = bu (bu (μ o) 3 c (-1)) 4 c (-1) → (∀ b c, μ1 5 b c = μ 5 b c) → K μ1) : c_v G (d + 1) YX0_takeOut [vR o 0, vI (c : Int)] μ K := by
  have ho5 : o ≠ 5 := cls_ne ho (show m_cls 5 = 5 from rfl) (by decide)
  refine EX0_takeOut ho ⟨⟨by omega, by omega⟩, fun μ1 e1 => ⟨⟨by omega, by omega⟩, fun μ2 e2 => ?_⟩⟩
  rw [Int.toNat_natCast] at e1 e2
  subst e1; subst e2
  exact h _ (ofo.up.tr ofo.up) (off5.rf _) (by rw [bu_up, bu_up]) (fun b c => by rw [m_up_ne _ _ (fun z => ho5 z.1.symm), m_up_ne _ _ (fun z => ho5 z.1.symm)])
def p_one (A : m_T) (B : Nat → Nat → Int) (c : Nat) (heat : Int) : Nat → Nat → Int :=
  bu (bu (bu (bu B 5 c (p_ring A c heat (B 4 c) (B 0 0))) 6 c (if p_crk A c heat (B 4 c) (B 0 0) then 1 else 0)) 3 c (-1)) 4 c (-1)
theorem bu_sw (B : Nat → Nat → Int) {k i k' i' : Nat} (v w : Int) (h : ¬ (k = k' ∧ i = i')) : bu (bu B k i v) k' i' w = bu (bu B k' i' w) k i v := by
  funext a b
  unfold bu
  by_cases h1 : a = k' ∧ b = i'
  · rw [if_pos h1]
    by_cases h2 : a = k ∧ b = i
    · exact absurd ⟨h2.1.symm.trans h1.1, h2.2.symm.trans h1.2⟩ h
    · rw [if_neg h2, if_pos h1]
  · rw [if_neg h1]
    by_cases h2 : a = k ∧ b = i
    · rw [if_pos h2, if_pos h2]
    · rw [if_neg h2, if_neg h2, if_neg h1]
theorem p_one_alt (A : m_T) (B : Nat → Nat → Int) (c : Nat) (heat : Int) {x y : Int} (hx : x = p_ring A c heat (B 4 c) (B 0 0)) (hy : y = if p_crk A c heat (B 4 c) (B 0 0) then 1 else 0) : bu (bu (bu (bu B 3 c (-1)) 4 c (-1)) 5 c x) 6 c y = p_one A B c heat := by
  unfold p_one
  rw [← hx, ← hy, bu_sw B (k := 3) (k' := 4) _ _ (by omega), bu_sw (bu B 4 c (-1)) (k := 3) (k' := 5) _ _ (by omega), bu_sw B (k := 4) (k' := 5) _ _ (by omega), bu_sw (bu (bu B 5 c x) 4 c (-1)) (k := 3) (k' := 6) _ _ (by omega), bu_sw (bu B 5 c x) (k := 4) (k' := 6) _ _ (by omega), bu_sw (bu (bu B 5 c x) 6 c y) (k := 4) (k' := 3) _ _ (by omega)]
theorem c_comeOut {G : m_G} {d o c : Nat} (ho : m_cls o = 0) (hc : c < 8) {μ : m_M} {x y : Int} {K : m_M → Prop} (h : ∀ μ1, ofo o μ μ1 → μ1 o = bu (bu (bu (bu (μ o) 3 c (-1)) 4 c (-1)) 5 c x) 6 c y → K μ1) : c_v G (d + 2) YX0_comeOut [vR o 0, vI (c : Int), vI x, vI y] μ K := by
  refine EX0_comeOut ho (c_takeOut ho hc (fun μ1 o1 _ b1 _ => ⟨⟨by omega, by omega⟩, fun μ2 e2 => ⟨⟨by omega, by omega⟩, fun μ3 e3 => ?_⟩⟩))
  rw [Int.toNat_natCast] at e2 e3
  subst e2; subst e3
  exact h _ ((o1.tr ofo.up).tr ofo.up) (by rw [bu_up, bu_up, b1])
noncomputable def p_stick (B : Nat → Nat → Int) (one other : Nat) : Nat → Nat → Int :=
  bu (bu B 7 one (i_or (B 7 one) (i_shl 1 (other : Int)))) 7 other (i_or (bu B 7 one (i_or (B 7 one) (i_shl 1 (other : Int))) 7 other) (i_shl 1 (one : Int)))
theorem c_stick {G : m_G} {d o a b : Nat} (ho : m_cls o = 0) (ha : a < 8) (hb : b < 8) {μ : m_M} {K : m_M → Prop} (h : ∀ μ1, ofo o μ μ1 → μ1 o = p_stick (μ o) a b → K μ1) : c_v G (d + 1) YX0_stick [vR o 0, vI (a : Int), vI (b : Int)] μ K := by
  refine EX0_stick ho ⟨⟨by omega, by omega⟩, ⟨by omega, by omega⟩, fun μ1 e1 => ⟨⟨by omega, by omega⟩, ⟨by omega, by omega⟩, fun μ2 e2 => ?_⟩⟩
  rw [Int.toNat_natCast] at e1 e2
  refine h μ2 (by rw [e2, e1]; exact ofo.up.tr ofo.up) ?_
  rw [e2, bu_up, e1, bu_up]
  rfl
noncomputable def p_due (A : m_T) (B : Nat → Nat → Int) (one other : Nat) (heat : Int) : Nat → Nat → Int :=
  if p_stk A one other (p_abs (B 5 one - B 5 other)) heat (B 0 0) then p_stick B one other else B
set_option maxRecDepth 20000 in
theorem c_due {G : m_G} {d t o a b : Nat} {μ : m_M} {A : m_T} (hT : CT μ t A) (ho : m_cls o = 0) (ha : a < tw_nc A) (hb : b < tw_nc A) {heat x : Int} (h1 : sm heat) (h2 : 0 ≤ μ o 5 a ∧ μ o 5 a ≤ 99) (h2b : 0 ≤ μ o 5 b ∧ μ o 5 b ≤ 99) (hx : x = μ o 5 b) (h3 : sm (μ o 0 0)) {K : m_M → Prop} (h : ∀ μ1, ofo o μ μ1 → μ1 o = p_due A (μ o) a b heat → K μ1) :
    (0 ≤ (a : Int) ∧ (a : Int) < 8) ∧ c_i G (d + 6) YX4_isStuck [vR 4 0, vI (a : Int), vI (b : Int), vI (w32 ((μ o 5 (a : Int).toNat) - x)), vI heat, vI (μ o 0 0)] μ (fun r18 μ17 => ((r18 = 0) → K μ17) ∧ ((¬ r18 = 0) → c_v G (d + 6) YX0_stick [vR o 0, vI (a : Int), vI (b : Int)] μ17 (fun μ21 => K μ21))) := by
  have h8 : a < 8 := Nat.lt_of_lt_of_le ha hT.2.2.2.1.1
  have h8b : b < 8 := Nat.lt_of_lt_of_le hb hT.2.2.2.1.1
  have ho5 : o ≠ 5 := cls_ne ho (show m_cls 5 = 5 from rfl) (by decide)
  rw [Int.toNat_natCast, hx, w32_le (by omega) (by omega)]
  refine ⟨⟨by omega, by omega⟩, c_isStuck hT ha hb h1 (by unfold sm; omega) h3 (fun μ2 o2 => ?_)⟩
  have b2 : μ2 o = μ o := by funext b c; exact o2 o b c ho5
  refine ⟨fun c => h μ2 (ofo.of5 o2) ?_, fun c => c_stick ho h8 h8b (fun μ4 o4 b4 => h μ4 ((ofo.of5 o2).tr o4) ?_)⟩
  · unfold p_due
    split at c
    · omega
    · next q => rw [if_neg q]; exact b2
  · unfold p_due
    split at c
    · next q => rw [if_pos q, b4, b2]
    · exact absurd rfl c
