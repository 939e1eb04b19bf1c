/-! ===== a layer of the reference, before any town: it sits nowhere ===== -/
def mK (A : m_T) (M : Nat → Nat → Int) (v : Nat) : Nat → Nat → Int := fun k i => if k = 3 ∨ k = 4 ∨ k = 5 then (if tw_nc A = 0 ∧ tw_nk A = 0 then -1 else mB M v k i) else mB M v k i
section MK
variable {A : m_T}
theorem mK_ne (h : ¬ (tw_nc A = 0 ∧ tw_nk A = 0)) (M : Nat → Nat → Int) (v : Nat) : mK A M v = mB M v := by
  funext k i
  unfold mK
  rw [if_neg h]
  split <;> rfl
theorem mK_n (h : ¬ (tw_nc A = 0 ∧ tw_nk A = 0)) (M : Nat → Nat → Int) (v k i : Nat) : mB M v k i = mK A M v k i := by rw [mK_ne h]
theorem mK_k (M : Nat → Nat → Int) (v : Nat) {k : Nat} (hk : ¬ (k = 3 ∨ k = 4 ∨ k = 5)) (i : Nat) : mK A M v k i = mB M v k i := if_neg hk
theorem mK_f (h : tw_nc A = 0 ∧ tw_nk A = 0) (M : Nat → Nat → Int) (v : Nat) {k : Nat} (hk : k = 3 ∨ k = 4 ∨ k = 5) (i : Nat) : mK A M v k i = -1 := by
  unfold mK
  rw [if_pos hk, if_pos h]
theorem mK00 (M : Nat → Nat → Int) (v : Nat) : mK A M v 0 0 = M 43 v := rfl
theorem mK01 (M : Nat → Nat → Int) (v : Nat) : mK A M v 0 1 = M 44 v := rfl
theorem mK09 (M : Nat → Nat → Int) (v : Nat) : mK A M v 0 9 = M 51 v := rfl
theorem mK6 (M : Nat → Nat → Int) (v i : Nat) : mK A M v 6 i = if tb (M 49 v) i then 1 else 0 := rfl
theorem mK7 (M : Nat → Nat → Int) (v i : Nat) : mK A M v 7 i = M 48 (8 * v + i) := rfl
theorem mK8 (M : Nat → Nat → Int) (v i : Nat) : mK A M v 8 i = M 50 (3 * v + i) := rfl
theorem mK9 (M : Nat → Nat → Int) (v i : Nat) : mK A M v 9 i = M 52 (160 * v + i) := rfl
theorem beq.toK {M M' : Nat → Nat → Int} {v v' : Nat} (h : beq (mB M v) (mB M' v')) : beq (mK A M v) (mK A M' v') := by
  by_cases z : tw_nc A = 0 ∧ tw_nk A = 0
  · refine ⟨h.1, fun i hi => ⟨?_, ?_, ?_, (h.2.1 i hi).2.2.2.1, (h.2.1 i hi).2.2.2.2⟩, h.2.2.1, h.2.2.2⟩
    · rw [mK_f z _ _ (by decide), mK_f z _ _ (by decide)]
    · rw [mK_f z _ _ (by decide), mK_f z _ _ (by decide)]
    · rw [mK_f z _ _ (by decide), mK_f z _ _ (by decide)]
  · rw [mK_ne z, mK_ne z]; exact h
/-- a layer that shows a bench where nobody sits shows it so too -/
theorem beq.toKn {M : Nat → Nat → Int} {v : Nat} {B : Nat → Nat → Int} (h : beq (mB M v) B) (hB : tw_nc A = 0 ∧ tw_nk A = 0 → ∀ i, i < 8 → B 3 i = -1 ∧ B 4 i = -1 ∧ B 5 i = -1) : beq (mK A M v) B := by
  by_cases z : tw_nc A = 0 ∧ tw_nk A = 0
  · refine ⟨h.1, fun i hi => ⟨?_, ?_, ?_, (h.2.1 i hi).2.2.2.1, (h.2.1 i hi).2.2.2.2⟩, h.2.2.1, h.2.2.2⟩
    · rw [mK_f z _ _ (by decide), (hB z i hi).1]
    · rw [mK_f z _ _ (by decide), (hB z i hi).2.1]
    · rw [mK_f z _ _ (by decide), (hB z i hi).2.2]
  · rw [mK_ne z]; exact h
theorem mK_congr {M M' : Nat → Nat → Int} (v : Nat) (h : ∀ b c, 43 ≤ b → b ≤ 52 → M' b c = M b c) : mK A M' v = mK A M v := by
  funext k i
  unfold mK
  rw [mB_congr v h]
theorem mK_off {μ μ1 : m_M} (v : Nat) (h : offM μ μ1) : mK A (μ1 34) v = mK A (μ 34) v := mK_congr v (fun b c _ _ => h 34 b c (by omega))
theorem mK_at {M M' : Nat → Nat → Int} {v k i : Nat} (h : mB M' v k i = mB M v k i) : mK A M' v k i = mK A M v k i := by
  unfold mK
  rw [h]
/-- where there are no children nobody sits -/
theorem BI.nob {B : Nat → Nat → Int} (h : BI A B) (z : tw_nc A = 0) : ∀ i, i < 8 → B 3 i = -1 ∧ B 4 i = -1 ∧ B 5 i = -1 := by
  intro i hi
  rcases h.2.2.2.2.1 i hi with ⟨h5, -, -, ⟨h3, h4⟩ | ⟨hc, -⟩⟩ | ⟨hc, -⟩
  · exact ⟨h3, h4, h5⟩
  · omega
  · omega
theorem m_cnt_no {p : Nat → Bool} : ∀ r i, (∀ j, i ≤ j → j < i + r → p j = false) → m_cnt p i r = 0 := by
  intro r
  induction r with
  | zero => intro i _; rfl
  | succ r ih => intro i h; unfold m_cnt; rw [h i (by omega) (by omega), ih (i + 1) (fun j h1 h2 => h j (by omega) (by omega))]; rfl
theorem BI.who0 {B : Nat → Nat → Int} (h : BI A B) (z : tw_nc A = 0) (k : Nat) (p : Int) : b_who B k p = -1 := who_m (fun e he q => by have := (h.nob z e he).1; have := q.1; omega)
theorem BI.cnt0 {B : Nat → Nat → Int} (h : BI A B) (z : tw_nc A = 0) (k : Nat) : b_cnt B k = 0 := m_cnt_no 8 0 (fun j _ hj => by
  have := (h.nob z j (by omega)).1
  simp only [beq_eq_false_iff_ne, ne_eq]
  omega)
theorem wk0 (h : tw_nk A = 0) (B : Nat → Nat → Int) (gust : Int) : p_week A B gust = (bu (p_load A B) 0 0 (p_load A B 0 0 + 1), 0) := by
  unfold p_week
  rw [h]
  rfl
theorem wk0_k (h : tw_nk A = 0) (B : Nat → Nat → Int) (gust : Int) {k : Nat} (hk : k ≠ 0) (i : Nat) : (p_week A B gust).1 k i = B k i := by
  rw [wk0 h]
  show bu (bu B 0 1 _) 0 0 _ k i = _
  rw [bu_ne _ _ (fun q => hk q.1), bu_ne _ _ (fun q => hk q.1)]
theorem wk0_0 (h : tw_nk A = 0) {B B' : Nat → Nat → Int} (gust : Int) (hB : ∀ i, B 0 i = B' 0 i) (i : Nat) : (p_week A B gust).1 0 i = (p_week A B' gust).1 0 i := by
  rw [wk0 h, wk0 h]
  unfold p_load bu
  simp only [hB]
set_option maxRecDepth 20000 in
set_option maxHeartbeats 1000000 in
theorem cm_ticks0 {G : m_G} {d b v : Nat} {μ : m_M} (hT : MT μ b A) (hv : v < 22) (h0 : tw_nk A = 0) (hw0 : 0 ≤ μ 34 43 v) (hy : 0 ≤ μ 34 44 v ∧ μ 34 44 v ≤ 9999) (h49 : 0 ≤ μ 34 49 v ∧ μ 34 49 v < 256) {gust : Int} (hw : μ 34 43 v < 999) {K : m_M → Prop} (h : ∀ μ1, ofL v μ μ1 → (0 ≤ μ1 34 49 v ∧ μ1 34 49 v < 256) → beq (mB (μ1 34) v) (p_week A (mB (μ 34) v) gust).1 → μ1 34 0 57 = 0 → K μ1) : c_v G (d + 7) YX12_ticks [vR 34 0, vI (v : Int), vI gust] μ K := by
  have hTA := hT.2.2.2.1
  have hb1 := hT.2.1
  have hld := hTA.2.2.2.2.2.1
  obtain ⟨B0, hB0⟩ : ∃ B0, B0 = mB (μ 34) v := ⟨_, rfl⟩
  rw [← hB0, wk0 h0] at h
  refine EX12_ticks (fun X C R μ1 e1 => ?_)
  have f1 : ofL v μ μ1 := by rw [e1]; exact ofL.up ⟨rfl, by omega⟩
  have T1 := hT.ofL f1
  have e44 : μ1 34 44 v = B0 0 1 := by rw [e1, m_up_ne _ _ (by omega), hB0]; rfl
  have e21 : μ1 34 21 b = tw_load A := by rw [← T1.2.2.1]; rfl
  rw [T1.1, Int.toNat_natCast, Int.toNat_natCast, e44, e21]
  have hy : 0 ≤ B0 0 1 ∧ B0 0 1 ≤ 9999 := by rw [hB0]; exact hy
  refine ⟨⟨by omega, by omega⟩, ⟨by omega, by omega⟩, fun x2 e2 => ?_⟩
  rw [w32_le (by omega) (by omega)] at e2
  have L : ∀ μ1 : m_M, ofL v μ μ1 → (0 ≤ μ1 34 49 v ∧ μ1 34 49 v < 256) → mB (μ1 34) v = p_load A B0 → μ1 34 0 57 = 0 → mW G X YX12_ticks μ1 45 [some (vR 34 0), some (vI (v : Int)), some (vI gust), some (vI x2), some (vI 0), none] [] := by
    intro μ1 f1 k49 hbq h57
    have T1 := hT.ofL f1
    have e43 : μ1 34 43 v = B0 0 0 := by
      have : mB (μ1 34) v 0 0 = p_load A B0 0 0 := by rw [hbq]
      exact this.trans (bu_ne _ _ (by omega))
    have hw' : 0 ≤ B0 0 0 ∧ B0 0 0 < 999 := by rw [hB0]; exact ⟨hw0, hw⟩
    refine VX12_ticks_45 C R ?_
    rw [T1.1, Int.toNat_natCast, Int.toNat_natCast, T1.nk, e43, w32_le (by omega) (by omega), h0]
    refine ⟨⟨by omega, by omega⟩, fun _ => ⟨⟨by omega, by omega⟩, ⟨by omega, by omega⟩, fun μ2 e2 => ?_⟩, fun q => absurd (by omega) q⟩
    have g : ∀ b c, b ≠ 43 → μ2 34 b c = μ1 34 b c := fun b c q => by rw [e2, m_up_ne _ _ (fun z => q z.2.1)]
    refine h μ2 (by rw [e2]; exact f1.tr (ofL.up ⟨rfl, by omega⟩)) (by rw [g 49 v (by decide)]; exact k49) ?_ (by rw [g 0 57 (by decide)]; exact h57)
    rw [e2, mB_week, hbq, show p_load A B0 0 0 = B0 0 0 from bu_ne _ _ (by omega)]
    exact beq.rf _
  have start : ∀ (y : Int) (μ3 : m_M), y = (if B0 0 1 + tw_load A < 9999 then B0 0 1 + tw_load A else 9999) → μ3 = m_up μ1 34 44 v y → mW G X YX12_ticks μ3 45 [some (vR 34 0), some (vI (v : Int)), some (vI gust), some (vI x2), some (vI 0), none] [] := by
    intro y μ3 ey e3
    have m1 : mB (μ1 34) v = B0 := by rw [hB0]; exact mB_congr v (fun b c h1 h2 => by rw [e1, m_up_ne _ _ (by omega)])
    have m3 : mB (μ3 34) v = p_load A B0 := by rw [e3, mB_yard, m1, ey]; rfl
    have e57 : μ3 34 0 57 = 0 := by rw [e3, m_up_ne _ _ (by omega), e1, m_up_at]
    refine L μ3 ?_ ?_ m3 e57
    · rw [e3]; exact f1.tr (ofL.up ⟨rfl, by omega⟩)
    · rw [e3, m_up_ne _ _ (by omega), e1, m_up_ne _ _ (by omega)]; exact h49
  refine ⟨fun q => ⟨⟨by omega, by omega⟩, fun μ3 e3 => start x2 μ3 ?_ e3⟩, fun q => ⟨⟨by omega, by omega⟩, fun μ5 e5 => start 9999 μ5 ?_ e5⟩⟩
  · split <;> omega
  · rw [if_neg (by omega)]
theorem cm_ticksK {G : m_G} {d b v : Nat} {μ : m_M} (hT : MT μ b A) (hv : v < 22) (hB : BI A (mK A (μ 34) v)) (h49 : 0 ≤ μ 34 49 v ∧ μ 34 49 v < 256) {gust : Int} (hg : 0 ≤ gust ∧ gust ≤ 3) (hw : μ 34 43 v < 999) {K : m_M → Prop} (h : ∀ μ1, ofL v μ μ1 → (0 ≤ μ1 34 49 v ∧ μ1 34 49 v < 256) → beq (mK A (μ1 34) v) (p_week A (mK A (μ 34) v) gust).1 → (0 ≤ μ1 34 0 57 ∧ μ1 34 0 57 < 8) → (∀ j, j < 3 → (tb (μ1 34 0 57) j = true ↔ mK A (μ 34) v 8 j ≠ -1 ∧ (p_week A (mK A (μ 34) v) gust).1 8 j = -1)) → (p_week A (mK A (μ 34) v) gust).2 = (m_cnt (fun c => tb (μ1 34 0 57) c) 0 3 : Int) → K μ1) : c_v G (d + 7) YX12_ticks [vR 34 0, vI (v : Int), vI gust] μ K := by
  by_cases z : tw_nc A = 0 ∧ tw_nk A = 0
  · refine cm_ticks0 hT hv z.2 hB.1.1 hB.2.1 h49 hw (fun μ1 o1 i1 b1 z1 => ?_)
    refine h μ1 o1 i1 ?_ (by rw [z1]; omega) (fun j hj => ?_) ?_
    · refine ⟨⟨b1.1.1.trans (wk0_0 (B := mB (μ 34) v) (B' := mK A (μ 34) v) z.2 gust (fun _ => rfl) 0), b1.1.2.1.trans (wk0_0 (B := mB (μ 34) v) (B' := mK A (μ 34) v) z.2 gust (fun _ => rfl) 1), b1.1.2.2.trans (wk0_0 (B := mB (μ 34) v) (B' := mK A (μ 34) v) z.2 gust (fun _ => rfl) 9)⟩, fun i hi => ⟨?_, ?_, ?_, ?_, ?_⟩, fun k hk => ?_, fun i hi => ?_⟩
      · rw [wk0_k z.2 _ _ (by decide), mK_f z _ _ (by decide), mK_f z _ _ (by decide)]
      · rw [wk0_k z.2 _ _ (by decide), mK_f z _ _ (by decide), mK_f z _ _ (by decide)]
      · rw [wk0_k z.2 _ _ (by decide), mK_f z _ _ (by decide), mK_f z _ _ (by decide)]
      · have := (b1.2.1 i hi).2.2.2.1
        rw [wk0_k z.2 _ _ (by decide)] at this ⊢
        exact this
      · have := (b1.2.1 i hi).2.2.2.2
        rw [wk0_k z.2 _ _ (by decide)] at this ⊢
        exact this
      · have := b1.2.2.1 k hk
        rw [wk0_k z.2 _ _ (by decide)] at this ⊢
        exact this
      · have := b1.2.2.2 i hi
        rw [wk0_k z.2 _ _ (by decide)] at this ⊢
        exact this
    · rw [z1, tb_0, wk0_k z.2 _ _ (by decide)]
      constructor
      · intro q; cases q
      · intro q; exact absurd q.2 q.1
    · rw [wk0 z.2, z1, m_cnt3, tb_0, tb_0, tb_0]; rfl
  · rw [mK_ne z] at hB h
    exact cm_ticks hT hv hB h49 hg hw (fun μ1 o1 i1 b1 => h μ1 o1 i1 (by rw [mK_ne z]; exact b1))
theorem cm_copiesK {G : m_G} {d x y : Nat} (hx : x < 22) (hy : y < 22) (hxy : x ≠ y) {μ : m_M} (hf : 0 ≤ μ 34 51 y ∧ μ 34 51 y ≤ 8) {K : m_M → Prop} (h : ∀ μ1, ofL x μ μ1 → (∀ b c, b < 43 ∨ 52 < b → μ1 34 b c = μ 34 b c) → μ1 34 49 x = μ 34 49 y → beq (mK A (μ1 34) x) (mK A (μ 34) y) → K μ1) : c_v G (d + 1) YX12_copies [vR 34 0, vI (x : Int), vI (y : Int)] μ K :=
  cm_copies hx hy hxy hf (fun μ1 o1 o2 e b1 => h μ1 o1 o2 e b1.toK)
end MK
