/-! ===== brothers ===== -/
def sub (S T : Int) : Prop := ∀ j, tb S j = true → tb T j = true
def in8 (S : Int) : Prop := 0 ≤ S ∧ S < 256
theorem in8.bt {S : Int} (h : in8 S) : bt S := bt_s h
theorem in8.big {S : Int} (h : in8 S) {c : Nat} (hc : 8 ≤ c) : tb S c = false := tb_big (n := 8) h hc
theorem in8.or {S T : Int} (h : in8 S) (h2 : in8 T) : in8 (i_or S T) := or_in (n := 8) (by decide) h h2
theorem tb_eq {S T : Int} (h : in8 S) (h2 : in8 T) (e : ∀ j, j < 8 → tb S j = tb T j) : S = T := tb_ext h.1 h2.1 (fun c => by
  by_cases hc : c < 8
  · exact e c hc
  · rw [h.big (by omega), h2.big (by omega)])
theorem sub.anti {S T : Int} (h : in8 S) (h2 : in8 T) (a : sub S T) (b : sub T S) : S = T := tb_eq h h2 (fun j _ => by
  have := a j; have := b j
  cases h1 : tb S j <;> cases h2 : tb T j <;> simp_all)
def pc8 (S : Int) : Nat := m_cnt (fun c => tb S c) 0 8
theorem pc8_lt {S T : Int} (h : in8 S) (h2 : in8 T) (a : sub S T) (ne : S ≠ T) : pc8 S < pc8 T := by
  refine (m_cnt_lt (p := fun c => tb S c) (q := fun c => tb T c) 8 0 (fun j _ _ hj => a j hj)).2 ?_
  by_cases q : ∃ j, j < 8 ∧ tb S j = false ∧ tb T j = true
  · obtain ⟨j, k1, k2, k3⟩ := q; exact ⟨j, by omega, by omega, k2, k3⟩
  · exfalso
    apply ne
    refine sub.anti h h2 a (fun j hj => ?_)
    by_cases hj8 : j < 8
    · cases hs : tb S j with
      | true => rfl
      | false => exact absurd ⟨j, hj8, hs, hj⟩ q
    · rw [h2.big (by omega)] at hj; cases hj
/-- closed under those that are stuck -/
def clo (st : Nat → Int) (S : Int) : Prop := ∀ k, k < 8 → tb S k = true → sub (st k) S
def mini (st : Nat → Int) (c : Nat) (S : Int) : Prop := in8 S ∧ tb S c = true ∧ ∀ T, clo st T → tb T c = true → sub S T
theorem mini_uniq {st : Nat → Int} {c : Nat} {S T : Int} (h : mini st c S) (h2 : mini st c T) (hc : clo st S) (hc2 : clo st T) : S = T := sub.anti h.1 h2.1 (h.2.2 T hc2 h2.2.1) (h2.2.2 S hc h.2.1)
theorem mini.or {st : Nat → Int} {c : Nat} {S : Int} (h : mini st c S) {S0 : Int} (h0 : mini st c S0) {k : Nat} (hk : k < 8) (hs : in8 (st k)) (hb : tb S0 k = true) : mini st c (i_or S (st k)) := by
  refine ⟨h.1.or hs, ?_, fun T hT hc j hj => ?_⟩
  · rw [tb_or h.1.bt hs.bt, h.2.1]; rfl
  · rw [tb_or h.1.bt hs.bt, Bool.or_eq_true] at hj
    rcases hj with hj | hj
    · exact h.2.2 T hT hc j hj
    · exact hT k hk (h0.2.2 T hT hc k hb) j hj
theorem mini.one {st : Nat → Int} {c : Nat} (hc : c < 8) : mini st c (i_shl 1 (c : Int)) := by
  refine ⟨shl_in hc (by decide), ?_, fun T _ hT j hj => ?_⟩
  · rw [tb_shl (by omega)]; simp
  · rw [tb_shl (by omega)] at hj
    have : c = j := by simpa using hj
    rw [← this]; exact hT
theorem pc8_pos {S : Int} {c : Nat} (hc : c < 8) (h : tb S c = true) : 1 ≤ pc8 S := by
  have := (m_cnt_lt (p := fun _ => false) (q := fun c => tb S c) 8 0 (fun _ _ _ hj => by simp at hj)).2 ⟨c, by omega, by omega, rfl, h⟩
  unfold pc8
  omega
set_option maxRecDepth 20000 in
theorem c_brothersOf {G : m_G} {d o : Nat} (ho : m_cls o = 0) {μ : m_M} (hs : ∀ k, k < 8 → in8 (μ o 7 k)) {c : Nat} (hc : c < 8) {K : Int → m_M → Prop} (h0 : μ o 5 c = -1 → K 0 μ) (h1 : μ o 5 c ≠ -1 → ∀ S, mini (μ o 7) c S → clo (μ o 7) S → K S μ) : c_i G (d + 2) YX0_brothersOf [vR o 0, vI (c : Int)] μ K := by
  refine EX0_brothersOf ho (fun X C R => c_isFired ho hc ?_)
  by_cases q : μ o 5 c = -1
  · rw [if_pos q]; exact ⟨z0, fun _ => h0 q⟩
  · rw [if_neg q]
    refine ⟨fun _ x3 e3 => ?_, z1⟩
    subst e3
    have IN : ∀ (r k : Nat) (rd : Int) (S cur : Int), k + r = 8 → mini (μ o 7) c S → mini (μ o 7) c cur → sub S cur → (∀ k', k' < k → tb S k' = true → sub (μ o 7 k') cur) → (∀ T, mini (μ o 7) c T → sub S T → (∀ k', k' < 8 → tb S k' = true → sub (μ o 7 k') T) → ∀ x1 : Int, x1 = w32 (rd + 1) → mW G X YX0_brothersOf μ 16 [some (vR o 0), some (vI (c : Int)), some (vI T), some (vI x1), none] []) → mW G X YX0_brothersOf μ 25 [some (vR o 0), some (vI (c : Int)), some (vI cur), some (vI rd), some (vI (k : Int))] [] := by
      intro r
      induction r with
      | zero =>
        intro k rd S cur hk hS hcu hsub hall go
        exact VX0_brothersOf_25 C R ho ⟨fun _ => go cur hcu hsub (fun k' hk' hb => hall k' (by omega) hb), fun z => absurd (by omega) z⟩
      | succ r ih =>
        intro k rd S cur hk hS hcu hsub hall go
        refine VX0_brothersOf_25 C R ho ⟨fun z => absurd z (by omega), fun _ => ⟨fun z x e => ?_, fun z => ⟨⟨by omega, by omega⟩, fun x3 e3 x4 e4 => ?_⟩⟩⟩
        · rw [w32_s (by omega)] at e; subst e
          rw [tb_i hcu.1.bt (by omega)] at z
          refine ih (k + 1) rd S cur (by omega) hS hcu hsub (fun k' hk' hb => ?_) go
          by_cases e : k' = k
          · rw [e] at hb; exact absurd (hsub k hb) z
          · exact hall k' (by omega) hb
        · rw [w32_s (by omega)] at e4; subst e4
          rw [Int.toNat_natCast] at e3
          subst e3
          rw [tb_i hcu.1.bt (by omega)] at z
          have hk8 : k < 8 := by omega
          have hor : ∀ j, tb (i_or cur (μ o 7 k)) j = (tb cur j || tb (μ o 7 k) j) := tb_or hcu.1.bt (hs k hk8).bt
          refine ih (k + 1) rd S _ (by omega) hS (hcu.or hcu hk8 (hs k hk8) z) (fun j hj => by rw [hor, hsub j hj]; rfl) (fun k' hk' hb j hj => ?_) go
          rw [hor]
          by_cases e : k' = k
          · rw [e] at hj; rw [hj]; simp
          · rw [hall k' (by omega) hb j hj]; rfl
    have OUT : ∀ (r rd : Nat) (S : Int), rd + r = 8 → mini (μ o 7) c S → (clo (μ o 7) S ∨ rd + 1 ≤ pc8 S) → mW G X YX0_brothersOf μ 16 [some (vR o 0), some (vI (c : Int)), some (vI S), some (vI (rd : Int)), none] [] := by
      intro r
      induction r with
      | zero =>
        intro rd S hr hS hcl
        refine VX0_brothersOf_16 C R ho ⟨fun _ => h1 q S hS ?_, fun z => absurd (by omega) z⟩
        rcases hcl with k | k
        · exact k
        · have : pc8 S ≤ 8 := m_cnt_le _ _ _
          omega
      | succ r ih =>
        intro rd S hr hS hcl
        refine VX0_brothersOf_16 C R ho ⟨fun z => absurd z (by omega), fun _ => ?_⟩
        refine IN 8 0 rd S S (by omega) hS hS (fun j hj => hj) (fun k' hk' => by omega) (fun T hT hsub hall x1 e1 => ?_)
        rw [w32_s (by omega)] at e1; subst e1
        refine ih (rd + 1) T (by omega) hT ?_
        by_cases e : S = T
        · left
          rw [← e] at hall ⊢
          exact fun k hk hb => hall k hk hb
        · rcases hcl with k | k
          · exact absurd (sub.anti hS.1 hT.1 hsub (hT.2.2 S k hS.2.1)) e
          · right
            have := pc8_lt hS.1 hT.1 hsub e
            omega
    exact OUT 8 0 _ (by omega) (mini.one hc) (Or.inr (pc8_pos hc (mini.one (st := μ o 7) hc).2.1))
section S4
variable {G : m_G} {a1 : Int}
set_option maxRecDepth 20000 in
theorem S_brothers : SIM G YX11_brothers YX12_brothers [vI a1] := by
  intro d μ ⟨A, t, s, b, h⟩
  have hR : RR μ := ⟨A, t, s, b, h⟩
  have hM := h.1.2.1
  have hb1 := hM.2.1
  have hA := h.1.1.2.2.2.1
  have hnc := hA.1
  have hbc := h.2.1.1.2.2.2.2.1
  have hs : ∀ k, k < 8 → in8 (μ 10 7 k) := fun k hk => by
    rcases hbc k hk with ⟨-, -, k7, -⟩ | ⟨-, -, -, k7, -⟩
    · unfold in8; omega
    · exact k7
  have hs0 : ∀ k, k < 8 → tw_nc A ≤ k → μ 10 7 k = 0 := fun k hk hn => by
    rcases hbc k hk with ⟨-, -, k7, -⟩ | ⟨hlt, -⟩
    · exact k7
    · omega
  by_cases hy : 0 ≤ a1 ∧ a1 < (tw_nc A : Int)
  · obtain ⟨c, rfl⟩ : ∃ c : Nat, a1 = (c : Int) := ⟨a1.toNat, by omega⟩
    have hc8 : c < 8 := by omega
    have k5 := (h.2.1.c hc8).2.2.1
    -- a round of the reference
    have IN : ∀ (Zr : Int) (X : m_X), mC G X YX12_brothers (d + 100) → r_i G X (fun r2 μ2 => r2 = Zr ∧ RR μ2) → ∀ (r k : Nat) (S cur : Int), k + r = tw_nc A → in8 S → in8 cur → (∀ j, tb cur j = true ↔ (tb S j = true ∨ ∃ k', k' < k ∧ tb S k' = true ∧ tb (μ 10 7 k') j = true)) → (∀ T, in8 T → (∀ j, tb T j = true ↔ (tb S j = true ∨ ∃ k', k' < tw_nc A ∧ tb S k' = true ∧ tb (μ 10 7 k') j = true)) → (T = S → mW G X YX12_brothers μ 30 [some (vR 34 0), some (vI (c : Int)), some (vI T), some (vI 0), none, none] []) ∧ (T ≠ S → mW G X YX12_brothers μ 30 [some (vR 34 0), some (vI (c : Int)), some (vI T), some (vI 1), none, none] [])) → mW G X YX12_brothers μ 40 [some (vR 34 0), some (vI (c : Int)), some (vI S), some (vI 1), some (vI cur), some (vI (k : Int))] [] := by
      intro Zr X C R r
      induction r with
      | zero =>
        intro k S cur hk hS hcu hch go
        refine VX12_brothers_40 C R ?_
        rw [hM.1, Int.toNat_natCast, hM.nc]
        have g := go cur hcu (by rw [show tw_nc A = k by omega]; exact hch)
        exact ⟨⟨by omega, by omega⟩, fun _ => ⟨g.1, g.2⟩, fun z => absurd (by omega) z⟩
      | succ r ih =>
        intro k S cur hk hS hcu hch go
        refine VX12_brothers_40 C R ?_
        rw [hM.1, Int.toNat_natCast, hM.nc]
        have hk8 : k < 8 := by omega
        refine ⟨⟨by omega, by omega⟩, fun z => absurd z (by omega), fun _ => EX12_has2 ⟨fun z => ⟨fun _ x7 e7 x8 e8 => ?_, z0⟩, fun z => ⟨z1, fun _ => ⟨⟨by omega, by omega⟩, fun x7 e7 x8 e8 => ?_⟩⟩⟩⟩
        · rw [w32_s (by omega)] at e8; subst e8
          rw [i_or_0 hcu.bt] at e7
          subst e7
          rw [tb_i hS.bt (by omega)] at z
          refine ih (k + 1) S x7 (by omega) hS hcu (fun j => ?_) go
          rw [hch j]
          constructor
          · rintro (q | ⟨k', q1, q2, q3⟩)
            · exact Or.inl q
            · exact Or.inr ⟨k', by omega, q2, q3⟩
          · rintro (q | ⟨k', q1, q2, q3⟩)
            · exact Or.inl q
            · by_cases e : k' = k
              · rw [e] at q2; exact absurd q2 z
              · exact Or.inr ⟨k', by omega, q2, q3⟩
        · rw [w32_s (by omega)] at e8; subst e8
          rw [Int.toNat_natCast, (h.2.1.c hk8).2.2.2.2] at e7
          subst e7
          rw [tb_i hS.bt (by omega)] at z
          refine ih (k + 1) S _ (by omega) hS (hcu.or (hs k hk8)) (fun j => ?_) go
          rw [tb_or hcu.bt (hs k hk8).bt, Bool.or_eq_true, hch j]
          constructor
          · rintro ((q | ⟨k', q1, q2, q3⟩) | q)
            · exact Or.inl q
            · exact Or.inr ⟨k', by omega, q2, q3⟩
            · exact Or.inr ⟨k, by omega, z, q⟩
          · rintro (q | ⟨k', q1, q2, q3⟩)
            · exact Or.inl (Or.inl q)
            · by_cases e : k' = k
              · rw [e] at q3; exact Or.inr q3
              · exact Or.inl (Or.inr ⟨k', by omega, q2, q3⟩)
    have fin : ∀ (Zr : Int) (X : m_X), mC G X YX12_brothers (d + 100) → r_i G X (fun r2 μ2 => r2 = Zr ∧ RR μ2) → ∀ T, T = Zr → mW G X YX12_brothers μ 30 [some (vR 34 0), some (vI (c : Int)), some (vI T), some (vI 0), none, none] [] := fun Zr X C R T e => VX12_brothers_30 C R ⟨fun _ => ⟨e, hR⟩, z0⟩
    refine EX11_brothers (cl_child_y h hy ⟨z1, fun _ => c_brothersOf (by decide) hs hc8 (fun q => ?_) (fun q S hS hcl => ?_)⟩)
    · refine EX12_brothers (fun X C R => mo_child_y h hy ⟨fun _ => ⟨⟨by omega, by omega⟩, fun z => ?_, fun z => ?_⟩, z1⟩)
      · rw [Int.toNat_natCast, k5] at z; exact absurd q z
      · refine VX12_brothers_30 C R ⟨z1, fun _ => ?_⟩
        have i0 : in8 0 := ⟨by omega, by omega⟩
        refine IN 0 X C R (tw_nc A) 0 0 0 (by omega) i0 i0 (fun j => ?_) (fun T hT hch => ?_)
        · rw [tb_0]; simp
        · have e : T = 0 := tb_ext hT.1 (by omega) (fun j => by
            have := hch j
            rw [tb_0]
            cases ht : tb T j with
            | false => rfl
            | true =>
              rcases this.mp ht with k | ⟨k', -, k, -⟩
              · rw [tb_0] at k; cases k
              · rw [tb_0] at k; cases k)
          exact ⟨fun _ => fin 0 X C R T e, fun z => absurd e z⟩
    · refine EX12_brothers (fun X C R => mo_child_y h hy ⟨fun _ => ⟨⟨by omega, by omega⟩, fun z x3 e3 => ?_, fun z => ?_⟩, z1⟩)
      · subst e3
        have OUT : ∀ (n : Nat) (T : Int), 8 - pc8 T ≤ n → mini (μ 10 7) c T → mW G X YX12_brothers μ 30 [some (vR 34 0), some (vI (c : Int)), some (vI T), some (vI 1), none, none] [] := by
          intro n
          induction n with
          | zero =>
            intro T hn hT
            refine VX12_brothers_30 C R ⟨z1, fun _ => IN S X C R (tw_nc A) 0 T T (by omega) hT.1 hT.1 (fun j => by simp) (fun U hU hch => ?_)⟩
            have e : T = U := by
              by_cases e : T = U
              · exact e
              · have := pc8_lt hT.1 hU (fun j hj => (hch j).mpr (Or.inl hj)) e
                have : pc8 U ≤ 8 := m_cnt_le _ _ _
                omega
            refine ⟨fun _ => fin S X C R U ?_, fun z => absurd e.symm z⟩
            rw [← e]
            refine mini_uniq hT hS (fun k hk hb j hj => ?_) hcl
            have := (hch j).mpr (Or.inr ⟨k, ?_, hb, hj⟩)
            · rw [← e] at this; exact this
            · by_cases hk2 : k < tw_nc A
              · exact hk2
              · rw [hs0 k hk (by omega), tb_0] at hj; cases hj
          | succ n ih =>
            intro T hn hT
            refine VX12_brothers_30 C R ⟨z1, fun _ => IN S X C R (tw_nc A) 0 T T (by omega) hT.1 hT.1 (fun j => by simp) (fun U hU hch => ?_)⟩
            have hsub : sub T U := fun j hj => (hch j).mpr (Or.inl hj)
            have hUm : mini (μ 10 7) c U := ⟨hU, hsub c hT.2.1, fun V hV hc' j hj => by
              rcases (hch j).mp hj with k | ⟨k', q1, q2, q3⟩
              · exact hT.2.2 V hV hc' j k
              · exact hV k' (by omega) (hT.2.2 V hV hc' k' q2) j q3⟩
            refine ⟨fun e => fin S X C R U ?_, fun e => ih U ?_ hUm⟩
            · rw [e]
              refine mini_uniq hT hS (fun k hk hb j hj => ?_) hcl
              have := (hch j).mpr (Or.inr ⟨k, ?_, hb, hj⟩)
              · rw [e] at this; exact this
              · by_cases hk2 : k < tw_nc A
                · exact hk2
                · rw [hs0 k hk (by omega), tb_0] at hj; cases hj
            · have := pc8_lt hT.1 hU hsub (fun z => e z.symm)
              omega
        exact OUT 8 _ (by omega) (mini.one hc8)
      · rw [Int.toNat_natCast, k5] at z; exact absurd z q
  · exact EX11_brothers (cl_child_n h hy ⟨fun _ => EX12_brothers (fun X C R => mo_child_n h hy ⟨z0, fun _ => ⟨rfl, hR⟩⟩), z0⟩)
end S4
