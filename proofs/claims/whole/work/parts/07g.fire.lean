/-! ===== a bench: what its writes do ===== -/
/-- all objects but the machine and the object o are as they were -/
def ofo (o : Nat) (μ μ1 : m_M) : Prop := ∀ a b c, a ≠ 5 → a ≠ o → μ1 a b c = μ a b c
theorem ofo.rf (o : Nat) (μ : m_M) : ofo o μ μ := fun _ _ _ _ _ => rfl
theorem ofo.tr {o : Nat} {μ μ1 μ2 : m_M} (h : ofo o μ μ1) (h2 : ofo o μ1 μ2) : ofo o μ μ2 := fun a b c h5 ha => (h2 a b c h5 ha).trans (h a b c h5 ha)
theorem ofo.of5 {o : Nat} {μ μ1 : m_M} (h : off5 μ μ1) : ofo o μ μ1 := fun a b c h5 _ => h a b c h5
theorem ofo.up {o : Nat} {μ : m_M} {b c : Nat} {v : Int} : ofo o μ (m_up μ o b c v) := fun a b' c' _ ha => m_up_ne _ _ (fun z => ha z.1)
theorem CT.ofo {μ μ1 : m_M} {t o : Nat} {A : m_T} (h : CT μ t A) (ho : m_cls o = 0) (hf : ofo o μ μ1) : CT μ1 t A :=
  h.mv (hf 4 0 0 (by decide) (fun e => by rw [← e] at ho; exact absurd ho (by decide))) (fun b c => hf t b c (cls_ne h.1 (show m_cls 5 = 5 from rfl) (by decide)) (cls_ne h.1 ho (by decide)))
def bu (B : Nat → Nat → Int) (k i : Nat) (v : Int) : Nat → Nat → Int := fun a b => if a = k ∧ b = i then v else B a b
theorem bu_up (μ : m_M) (o k i : Nat) (v : Int) : m_up μ o k i v o = bu (μ o) k i v := by
  funext a b
  unfold m_up bu
  by_cases h : a = k ∧ b = i
  · rw [if_pos ⟨rfl, h⟩, if_pos h]
  · rw [if_neg (fun z => h z.2), if_neg h]
theorem bu_at (B : Nat → Nat → Int) (k i : Nat) (v : Int) : bu B k i v k i = v := if_pos ⟨rfl, rfl⟩
theorem bu_ne (B : Nat → Nat → Int) {k i a b : Nat} (v : Int) (h : ¬ (a = k ∧ b = i)) : bu B k i v a b = B a b := if_neg h
theorem c_takeOut {G : m_G} {d o c : Nat} (ho : m_cls o = 0) (hc : c < 8) {μ : m_M} {K : m_M → Prop} (h : ∀ μ1, ofo o μ μ1 → off5 μ1 μ1 → μ1 o = bu (bu (μ o) 3 c (-1)) 4 c (-1) → (∀ b c, μ1 5 b c = μ 5 b c) → K μ1) : c_v G (d + 1) YX0_takeOut [vR o 0, vI (c : Int)] μ K := by
  have ho5 : o ≠ 5 := cls_ne ho (show m_cls 5 = 5 from rfl) (by decide)
  refine EX0_takeOut ho ⟨⟨by omega, by omega⟩, fun μ1 e1 => ⟨⟨by omega, by omega⟩, fun μ2 e2 => ?_⟩⟩
  rw [Int.toNat_natCast] at e1 e2
  subst e1; subst e2
  exact h _ (ofo.up.tr ofo.up) (off5.rf _) (by rw [bu_up, bu_up]) (fun b c => by rw [m_up_ne _ _ (fun z => ho5 z.1.symm), m_up_ne _ _ (fun z => ho5 z.1.symm)])
def p_one (A : m_T) (B : Nat → Nat → Int) (c : Nat) (heat : Int) : Nat → Nat → Int :=
  bu (bu (bu (bu B 5 c (p_ring A c heat (B 4 c) (B 0 0))) 6 c (if p_crk A c heat (B 4 c) (B 0 0) then 1 else 0)) 3 c (-1)) 4 c (-1)
set_option maxRecDepth 20000 in
theorem c_fireOne {G : m_G} {d t o c : Nat} {μ : m_M} {A : m_T} (hT : CT μ t A) (ho : m_cls o = 0) (hc : c < tw_nc A) {heat : Int} (h1 : sm heat) (h1b : 0 ≤ heat) (h2 : sm (μ o 4 c)) (h3 : sm (μ o 0 0)) {K : m_M → Prop} (h : ∀ μ1, ofo o μ μ1 → μ1 o = p_one A (μ o) c heat → K μ1) : c_v G (d + 7) YX4_fireOne [vR 4 0, vR o 0, vI (c : Int), vI heat] μ K := by
  have h8 : c < 8 := Nat.lt_of_lt_of_le hc hT.2.2.2.1.1
  have ho5 : o ≠ 5 := cls_ne ho (show m_cls 5 = 5 from rfl) (by decide)
  refine EX4_fireOne ho ⟨⟨by omega, by omega⟩, fun x1 e1 => ?_⟩
  rw [Int.toNat_natCast] at e1
  subst e1
  refine c_temperOf hT hc h1 h1b h2 h3 (fun μ2 o2 => ⟨⟨by omega, by omega⟩, fun μ5 e5 => ?_⟩)
  rw [Int.toNat_natCast] at e5
  have f2 : ofo o μ μ2 := ofo.of5 o2
  have b2 : μ2 o = μ o := by funext b c; exact o2 o b c ho5
  have f5 : ofo o μ μ5 := by rw [e5]; exact f2.tr ofo.up
  have b5 : μ5 o = bu (μ o) 5 c (p_ring A c heat (μ o 4 c) (μ o 0 0)) := by rw [e5, bu_up, b2]
  have w5 : μ5 o 0 0 = μ o 0 0 := by rw [b5, bu_ne _ _ (by omega)]
  have hT5 := hT.ofo ho f5
  rw [w5]
  refine c_isCracked hT5 hc h1 h2 h3 rfl (fun μ6 o6 => ?_)
  have f6 : ofo o μ μ6 := f5.tr (ofo.of5 o6)
  have b6 : μ6 o = μ5 o := by funext b c; exact o6 o b c ho5
  have fin : ∀ v : Int, v = (if p_crk A c heat (μ o 4 c) (μ o 0 0) then 1 else 0) → (0 ≤ (c : Int) ∧ (c : Int) < 8) ∧ ∀ μ8 : m_M, μ8 = m_up μ6 o 6 (c : Int).toNat v → c_v G (d + 6) YX0_takeOut [vR o 0, vI (c : Int)] μ8 K := by
    intro v hv
    refine ⟨⟨by omega, by omega⟩, fun μ8 e8 => ?_⟩
    rw [Int.toNat_natCast] at e8
    refine c_takeOut ho h8 (fun μ9 o9 _ b9 _ => h μ9 (f6.tr ((by rw [e8]; exact ofo.up : ofo o μ6 μ8).tr o9)) ?_)
    rw [b9, e8, bu_up, b6, b5, hv]
    rfl
  refine ⟨fun c1 => fin 0 ?_, fun c1 => fin 1 ?_⟩
  · split at c1
    · omega
    · next q => rw [if_neg q]
  · split at c1
    · next q => rw [if_pos q]
    · exact absurd rfl c1
noncomputable def p_stick (B : Nat → Nat → Int) (one other : Nat) : Nat → Nat → Int :=
  bu (bu B 7 one (i_or (B 7 one) (i_shl 1 (other : Int)))) 7 other (i_or (bu B 7 one (i_or (B 7 one) (i_shl 1 (other : Int))) 7 other) (i_shl 1 (one : Int)))
theorem c_stick {G : m_G} {d o a b : Nat} (ho : m_cls o = 0) (ha : a < 8) (hb : b < 8) {μ : m_M} {K : m_M → Prop} (h : ∀ μ1, ofo o μ μ1 → μ1 o = p_stick (μ o) a b → K μ1) : c_v G (d + 1) YX0_stick [vR o 0, vI (a : Int), vI (b : Int)] μ K := by
  refine EX0_stick ho ⟨⟨by omega, by omega⟩, ⟨by omega, by omega⟩, fun μ1 e1 => ⟨⟨by omega, by omega⟩, ⟨by omega, by omega⟩, fun μ2 e2 => ?_⟩⟩
  rw [Int.toNat_natCast] at e1 e2
  refine h μ2 (by rw [e2, e1]; exact ofo.up.tr ofo.up) ?_
  rw [e2, bu_up, e1, bu_up]
  rfl
noncomputable def p_due (A : m_T) (B : Nat → Nat → Int) (one other : Nat) (heat : Int) : Nat → Nat → Int :=
  if p_stk A one other (p_abs (B 5 one - B 5 other)) heat (B 0 0) then p_stick B one other else B
set_option maxRecDepth 20000 in
theorem c_stickIfDue {G : m_G} {d t o a b : Nat} {μ : m_M} {A : m_T} (hT : CT μ t A) (ho : m_cls o = 0) (ha : a < tw_nc A) (hb : b < tw_nc A) {heat : Int} (h1 : sm heat) (h2 : 0 ≤ μ o 5 a ∧ μ o 5 a ≤ 99) (h2b : 0 ≤ μ o 5 b ∧ μ o 5 b ≤ 99) (h3 : sm (μ o 0 0)) {K : m_M → Prop} (h : ∀ μ1, ofo o μ μ1 → μ1 o = p_due A (μ o) a b heat → K μ1) : c_v G (d + 7) YX4_stickIfDue [vR 4 0, vR o 0, vI (a : Int), vI (b : Int), vI heat] μ K := by
  have h8 : a < 8 := Nat.lt_of_lt_of_le ha hT.2.2.2.1.1
  have h8b : b < 8 := Nat.lt_of_lt_of_le hb hT.2.2.2.1.1
  have ho5 : o ≠ 5 := cls_ne ho (show m_cls 5 = 5 from rfl) (by decide)
  refine EX4_stickIfDue ho ⟨⟨by omega, by omega⟩, ⟨by omega, by omega⟩, fun x1 e1 => ?_⟩
  rw [Int.toNat_natCast, Int.toNat_natCast, w32_le (by omega) (by omega)] at e1
  subst e1
  refine c_isStuck hT ha hb h1 (by unfold sm; omega) h3 (fun μ2 o2 => ?_)
  have b2 : μ2 o = μ o := by funext b c; exact o2 o b c ho5
  refine ⟨fun c => h μ2 (ofo.of5 o2) ?_, fun c => c_stick ho h8 h8b (fun μ4 o4 b4 => h μ4 ((ofo.of5 o2).tr o4) ?_)⟩
  · unfold p_due
    split at c
    · omega
    · next q => rw [if_neg q]; exact b2
  · unfold p_due
    split at c
    · next q => rw [if_pos q, b4, b2]
    · exact absurd rfl c
