/-! ===== the class finds the best ===== -/
theorem c_fillb {G : m_G} {d o w n : Nat} {μ : m_M} {K : m_M → Prop} (ha : m_ar o w = (1, n)) (hw : w ≠ 0) (hn : n < 2147483648) (h : K (m_fl μ o w n 0)) : c_v G (d + 1) YJ7_fill_031fb [vR o w, vI 0] μ K := by
  refine EJ7_fill_031fb ha hw hn (fun X C R x2 e2 => ?_)
  subst e2
  have b0 : i_b 0 = 0 := by rw [i_b_eq]; decide
  have L : ∀ r i : Nat, i + r = n → ∀ μ1 : m_M, (∀ a b c, μ1 a b c = m_fl μ o w i 0 a b c) → mW G X YJ7_fill_031fb μ1 5 [some (vR o w), some (vI 0), some (vI (i : Int)), some (vI (n : Int))] [] := by
    intro r
    induction r with
    | zero =>
      intro i hi μ1 e
      have e1 : μ1 = m_fl μ o w n 0 := by funext a b c; rw [e, show i = n by omega]
      subst e1
      exact VJ7_fill_031fb_5 C R ha hw hn ⟨fun _ => h, fun c => absurd (by omega) c⟩
    | succ r ih =>
      intro i hi μ1 e
      refine VJ7_fill_031fb_5 C R ha hw hn ⟨fun c => absurd c (by omega), fun _ => ⟨⟨by omega, by omega⟩, fun μ2 e2 x ex => ?_⟩⟩
      rw [w32_s (by omega)] at ex
      subst ex
      rw [b0, Int.toNat_natCast] at e2
      refine ih (i + 1) (by omega) μ2 (fun a b c => ?_)
      rw [e2]
      simp only [m_up, m_fl, e]
      by_cases h1 : a = o ∧ b = w ∧ c = i
      · rw [if_pos h1, if_pos ⟨h1.1, h1.2.1, by omega⟩]
      · rw [if_neg h1]
        by_cases h2 : a = o ∧ b = w ∧ c < i
        · rw [if_pos h2, if_pos ⟨h2.1, h2.2.1, by omega⟩]
        · rw [if_neg h2, if_neg (fun z => ?_)]
          by_cases h3 : c = i
          · exact h1 ⟨z.1, z.2.1, h3⟩
          · exact h2 ⟨z.1, z.2.1, by omega⟩
  exact L n 0 (by omega) μ (fun a b c => by unfold m_fl; rw [if_neg (fun z => absurd z.2.2 (by omega))])
theorem who_arr {A : m_T} {B : Nat → Nat → Int} {kn rm : Nat} (hB : BI A B) (hrm : tw_room A kn = (rm : Int)) : isArr B kn rm (fun p => b_who B kn p) := by
  refine ⟨fun p hp => ?_, fun c hc hk => ?_, fun p q hp hq e ne => ?_⟩
  · rcases b_who_spec B kn p with ⟨z, -⟩ | ⟨c, z, hc, z3, -⟩
    · exact Or.inl z
    · exact Or.inr ⟨c, hc, z, z3⟩
  · have raw := (hB.2.2.2.2.1 c hc).raw hk
    refine ⟨(B 4 c).toNat, by omega, ?_⟩
    exact who_of (hB.uniq kn) hc hk (by omega)
  · rcases b_who_spec B kn p with ⟨z, -⟩ | ⟨c, z, hc, z3, z4, -⟩
    · exact absurd z ne
    · rcases b_who_spec B kn q with ⟨y, -⟩ | ⟨c', y, hc', y3, y4, -⟩
      · exact absurd (e.trans y) ne
      · have e : b_who B kn p = b_who B kn q := e
        rw [z, y] at e
        have : c = c' := by omega
        subst this
        omega
theorem in8_tb {x : Int} (hx : bt x) (h : ∀ c, 8 ≤ c → tb x c = false) : in8 x := by
  have := Nat.lt_pow_two_of_testBit (n := 8) x.toNat (fun i hi => h i hi)
  have := hx.1
  unfold in8
  omega
section FN
variable {G : m_G} {A : m_T} {B : Nat → Nat → Int} {t kn rm : Nat} {w h : Int}
theorem c_ringE {d : Nat} {μ : m_M} (hT : CT μ t A) (h7 : μ 7 0 6 = (rm : Int) ∧ μ 7 0 7 = h ∧ μ 7 0 5 = w) (hrm : rm ≤ 6) (hw : sm w) (hh : 0 ≤ h ∧ h ≤ 20) {c : Nat} (hc8 : c < 8) (hc : c < tw_nc A) {K : m_M → Prop} (k : ∀ μ1, (∀ x y z, x ≠ 5 → ¬ (x = 7 ∧ (y = 11 ∧ 6 * c ≤ z ∧ z < 6 * c + 6 ∨ y = 12 ∧ z = c)) → μ1 x y z = μ x y z) → (∀ q, q < rm → μ1 7 11 (6 * c + q) = TV A w h c q) → μ1 7 12 c = mxv A w h c rm → K μ1) : c_v G (d + 7) YX1_ringEverywhere [vR 7 0, vI (c : Int)] μ K := by
  refine EX1_ringEverywhere (fun X C R => ⟨⟨by omega, by omega⟩, fun μ1 e1 => ?_⟩)
  rw [Int.toNat_natCast] at e1
  have ht : t ≠ 5 ∧ t ≠ 7 := ⟨cls_ne hT.1 (show m_cls 5 = 5 from rfl) (by decide), cls_ne hT.1 (show m_cls 7 = 1 from rfl) (by decide)⟩
  have L : ∀ (r q : Nat) (μ1 : m_M), q + r = rm → (∀ x y z, x ≠ 5 → ¬ (x = 7 ∧ (y = 11 ∧ 6 * c ≤ z ∧ z < 6 * c + 6 ∨ y = 12 ∧ z = c)) → μ1 x y z = μ x y z) → (∀ q', q' < q → μ1 7 11 (6 * c + q') = TV A w h c q') → μ1 7 12 c = mxv A w h c q → mW G X YX1_ringEverywhere μ1 9 [some (vR 7 0), some (vI (c : Int)), some (vI (q : Int)), none] [] := by
    intro r
    induction r with
    | zero =>
      intro q μ1 hq f1 g1 m1
      have eq : q = rm := by omega
      subst eq
      exact VX1_ringEverywhere_9 C R ⟨fun _ => k μ1 f1 g1 m1, fun z => absurd (by rw [f1 7 0 6 (by decide) (by omega), h7.1]; omega) z⟩
    | succ r ih =>
      intro q μ1 hq f1 g1 m1
      have ct : ∀ μ', (∀ x y z, x ≠ 5 → ¬ (x = 7 ∧ (y = 11 ∧ 6 * c ≤ z ∧ z < 6 * c + 6 ∨ y = 12 ∧ z = c)) → μ' x y z = μ x y z) → CT μ' t A := fun μ' f => hT.mv (f 4 0 0 (by decide) (by omega)) (fun y z => f t y z ht.1 (fun w => ht.2 w.1))
      refine VX1_ringEverywhere_9 C R ⟨fun z => absurd z (by rw [f1 7 0 6 (by decide) (by omega), h7.1]; omega), fun _ => ?_⟩
      rw [f1 7 0 7 (by decide) (by omega), f1 7 0 5 (by decide) (by omega), h7.2.1, h7.2.2]
      refine c_temperOf (ct μ1 f1) hc (by unfold sm; omega) (by omega) (by unfold sm; omega) hw (fun μ2 o2 => ?_)
      have f2 : ∀ x y z, x ≠ 5 → ¬ (x = 7 ∧ (y = 11 ∧ 6 * c ≤ z ∧ z < 6 * c + 6 ∨ y = 12 ∧ z = c)) → μ2 x y z = μ x y z := fun x y z a b => (o2 x y z a).trans (f1 x y z a b)
      rw [f2 7 0 7 (by decide) (by omega), f2 7 0 5 (by decide) (by omega), h7.2.1, h7.2.2]
      refine c_isCracked (ct μ2 f2) hc (by unfold sm; omega) (by unfold sm; omega) hw rfl (fun μ3 o3 => ?_)
      have f3 : ∀ x y z, x ≠ 5 → ¬ (x = 7 ∧ (y = 11 ∧ 6 * c ≤ z ∧ z < 6 * c + 6 ∨ y = 12 ∧ z = c)) → μ3 x y z = μ x y z := fun x y z a b => (o3 x y z a).trans (f2 x y z a b)
      have s7 : ∀ y z, μ3 7 y z = μ1 7 y z := fun y z => (o3 7 y z (by decide)).trans (o2 7 y z (by decide))
      have at58 : mW G X YX1_ringEverywhere μ3 58 [some (vR 7 0), some (vI (c : Int)), some (vI (q : Int)), some (vI (TV A w h c q))] [] := by
        refine VX1_ringEverywhere_58 C R ?_
        rw [w32_le (z := (c : Int) * 6) (by omega) (by omega), w32_le (z := (c : Int) * 6 + (q : Int)) (by omega) (by omega), show (c : Int) * 6 + (q : Int) = ((6 * c + q : Nat) : Int) by omega, Int.toNat_natCast, Int.toNat_natCast, w32_s (by omega)]
        refine ⟨⟨by omega, by omega⟩, fun μ4 e4 => ⟨⟨by omega, by omega⟩, ⟨by omega, by omega⟩, fun μ5 e5 x3 e3 => ?_⟩⟩
        subst e3
        have v12 : μ4 7 12 c = mxv A w h c q := by rw [e4, m_up_ne _ _ (by omega), s7]; exact m1
        rw [v12] at e5
        refine ih (q + 1) μ5 (by omega) (fun x y z a b => ?_) (fun q' hq' => ?_) ?_
        · rw [e5, m_up_ne _ _ (by omega), e4, m_up_ne _ _ (by omega)]; exact f3 x y z a b
        · rw [e5, m_up_ne _ _ (by omega), e4]
          by_cases y : q' = q
          · subst y; rw [m_up_at]
          · rw [m_up_ne _ _ (by omega), s7]; exact g1 q' (by omega)
        · rw [e5, m_up_at]; rfl
      have hTV : TV A w h c q = if p_crk A c h q w then -1 else p_ring A c h q w := rfl
      by_cases y : p_crk A c h q w = true
      · rw [if_pos y] at hTV ⊢
        rw [hTV] at at58
        exact ⟨z1, fun _ => at58⟩
      · rw [if_neg y] at hTV ⊢
        rw [hTV] at at58
        exact ⟨fun _ => at58, z0⟩
  exact L rm 0 μ1 (by omega) (fun x y z a b => by rw [e1, m_up_ne _ _ (by omega)]) (fun q' hq' => by omega) (by rw [e1, m_up_at]; rfl)
/-- who is in the kiln -/
noncomputable def inK (B : Nat → Nat → Int) (kn : Nat) (c : Nat) : Bool := bl (B 3 c = (kn : Int))
theorem wf_inK {row : Nat → Int} (c : Nat) : wf B kn row 0 c = inK B kn c := bl_eq ⟨fun z => z.1, fun z => ⟨z, fun q hq => by omega⟩⟩
theorem c_tryHeat {d : Nat} {μ : m_M} (hB : BI A B) (hroom : tw_room A kn = (rm : Int)) (hrm : rm ≤ 6) (hw : sm w) (hh : 0 ≤ h ∧ h ≤ 20) (hT : CT μ t A) (h7 : μ 7 0 6 = (rm : Int) ∧ μ 7 0 7 = h ∧ μ 7 0 5 = w) (hs : 0 ≤ μ 7 0 1 ∧ μ 7 0 1 ≤ 1000) {wt : Int} (i8 : in8 wt) (htb : ∀ c, c < 8 → tb wt c = inK B kn c) {K : m_M → Prop} (k : ∀ μ1 bt', (∀ x y z, x ≠ 5 → ¬ (x = 7 ∧ (y = 0 ∧ (z = 0 ∨ z = 1 ∨ z = 8) ∨ y = 3 ∨ 10 ≤ y)) → μ1 x y z = μ x y z) → PO A w h rm (fun row' => isArr B kn rm row' ∧ rowOK A w h rm row') (μ 7 0 0, μ 7 0 1, μ 7 0 1 - 1, μ 7 3) (μ1 7 0 0, μ1 7 0 1, bt', μ1 7 3) → K μ1) : c_v G (d + 17) YX1_tryHeat [vR 7 0, vI wt] μ K := by
  have ht : t ≠ 5 ∧ t ≠ 7 := ⟨cls_ne hT.1 (show m_cls 5 = 5 from rfl) (by decide), cls_ne hT.1 (show m_cls 7 = 1 from rfl) (by decide)⟩
  refine EX1_tryHeat (fun X C R => ?_)
  have L : ∀ (r c : Nat) (μ1 : m_M), c + r = 8 → (∀ x y z, x ≠ 5 → ¬ (x = 7 ∧ (y = 11 ∨ y = 12)) → μ1 x y z = μ x y z) → (∀ c', c' < c → B 3 c' = (kn : Int) → (∀ q, q < rm → μ1 7 11 (6 * c' + q) = TV A w h c' q) ∧ μ1 7 12 c' = mxv A w h c' rm ∧ mxv A w h c' rm ≠ -1) → mW G X YX1_tryHeat μ1 4 [some (vR 7 0), some (vI wt), some (vI (ws (inK B kn) (fun c => mxv A w h c rm) c)), some (vI (c : Int))] [] := by
    intro r
    induction r with
    | zero =>
      intro c μ1 hc f1 g1
      have ec : c = 8 := by omega
      subst ec
      have hm : ∀ c, c < 8 → B 3 c = (kn : Int) → ∀ q : Nat, q < rm → p_crk A c h q w = false → p_ring A c h q w ≤ mxv A w h c rm := fun c hc hk q hq hcr => by rw [← TV_eq hcr]; exact mxv_ge A w h c rm q hq
      have hop : ∀ row', isArr B kn rm row' → rowOK A w h rm row' → rowSum A w h row' rm ≤ ws (inK B kn) (fun c => mxv A w h c rm) 8 := fun row' ha hok => by
        have := sum_bd ha hok (m := fun c => mxv A w h c rm) hm rm 0 (by omega)
        have e : ws (wf B kn row' 0) (fun c => mxv A w h c rm) 8 = ws (inK B kn) (fun c => mxv A w h c rm) 8 := ws_congr 8 (fun j _ => wf_inK j)
        have e0 : rowSum A w h row' 0 = 0 := rfl
        omega
      refine VX1_tryHeat_4 C R ⟨fun _ μ2 e2 => ?_, fun q => absurd (by omega) q⟩
      rw [f1 7 0 1 (by decide) (by omega), w32_le (by omega) (by omega)] at e2
      have v8 : μ2 7 0 8 = μ 7 0 1 - 1 := by rw [e2, m_up_at]
      have f2 : ∀ x y z, x ≠ 5 → ¬ (x = 7 ∧ (y = 0 ∧ z = 8 ∨ y = 11 ∨ y = 12)) → μ2 x y z = μ x y z := fun x y z a b => by rw [e2, m_up_ne _ _ (by omega)]; exact f1 x y z a (by omega)
      rw [v8]
      refine ⟨fun q => ?_, fun q => c_fillb (n := 384) rfl (by decide) (by decide) ?_⟩
      · refine k μ2 (μ 7 0 1 - 1) (fun x y z a b => f2 x y z a (by omega)) (Or.inl ⟨fun row' hr => ?_, f2 7 0 0 (by decide) (by omega), f2 7 0 1 (by decide) (by omega), rfl, fun q hq => f2 7 3 q (by decide) (by omega)⟩)
        have := hop row' hr.1 hr.2
        show _ ≤ μ 7 0 1 - 1
        omega
      · obtain ⟨μ3, e3⟩ : ∃ μ3, μ3 = m_fl μ2 7 13 384 0 := ⟨_, rfl⟩
        rw [← e3]
        have f3 : ∀ x y z, x ≠ 5 → ¬ (x = 7 ∧ (y = 0 ∧ z = 8 ∨ y = 11 ∨ y = 12 ∨ y = 13)) → μ3 x y z = μ x y z := fun x y z a b => by rw [e3, fl_ne (by omega)]; exact f2 x y z a (by omega)
        have g3 : ∀ y z, y ≠ 13 → ¬ (y = 0 ∧ z = 8) → μ3 7 y z = μ1 7 y z := fun y z hy h8 => by rw [e3, fl_ne (by omega), e2, m_up_ne _ _ (by omega)]
        have S3 : SI A B t kn rm w h μ3 := by
          refine ⟨hT.mv (f3 4 0 0 (by decide) (by omega)) (fun y z => f3 t y z ht.1 (fun w => ht.2 w.1)), ?_, fun c hc hk => ?_, fun p l c hp hl hc => Or.inl ?_⟩
          · rw [f3 7 0 6 (by decide) (by omega), f3 7 0 7 (by decide) (by omega), f3 7 0 5 (by decide) (by omega)]; exact h7
          · rw [g3 12 c (by decide) (by omega)]
            exact ⟨fun q hq => by rw [g3 11 _ (by decide) (by omega)]; exact (g1 c hc hk).1 q hq, (g1 c hc hk).2⟩
          · rw [e3, fl_in (by omega)]
        have hin := who_arr hB hroom
        have hfit := hin.fit (p := 0) (by omega)
        have ecn : m_cnt (wf B kn (μ3 7 10) 0) 0 8 = m_cnt (wf B kn (fun p => b_who B kn p) 0) 0 8 := m_cnt_congr 8 0 (fun j _ _ => by rw [wf_inK, wf_inK])
        have hd : d + 16 = (d + 7 - rm + (0 : Nat)) + rm + 9 := by omega
        rw [hd]
        refine c_ff (t := t) hB hrm hw hh rm 0 (by omega) (d + 7 - rm + 0) μ3 wt _ _ S3 ⟨fun q hq => by omega, fun q q' hq => by omega, fun q hq => by omega⟩ i8 (fun c hc => by rw [wf_inK]; exact htb c hc) (by omega) ?_ (fun μ4 f4 s4 _ po => ?_)
        · have e : ws (wf B kn (μ3 7 10) 0) (fun c => mxv A w h c rm) 8 = ws (inK B kn) (fun c => mxv A w h c rm) 8 := ws_congr 8 (fun j _ => wf_inK j)
          have e0 : rowSum A w h (μ3 7 10) 0 = 0 := rfl
          rw [e, e0]; omega
        · have x3 : XX μ3 = (μ 7 0 0, μ 7 0 1, μ 7 0 1 - 1, μ 7 3) := by
            have e33 : μ3 7 3 = μ 7 3 := by funext j; exact f3 7 3 j (by decide) (by omega)
            have e38 : μ3 7 0 8 = μ 7 0 1 - 1 := by rw [e3, fl_ne (by omega)]; exact v8
            show (μ3 7 0 0, μ3 7 0 1, μ3 7 0 8, μ3 7 3) = _
            rw [f3 7 0 0 (by decide) (by omega), f3 7 0 1 (by decide) (by omega), e38, e33]
          rw [x3] at po
          refine k μ4 (μ4 7 0 8) (fun x y z a b => ?_) (po.sub (fun row' => ⟨fun z => ⟨z.1, z.2.1⟩, fun z => ⟨z.1, z.2, fun q hq => by omega⟩⟩))
          rw [f4 x y z a (by omega)]; exact f3 x y z a (by omega)
    | succ r ih =>
      intro c μ1 hc f1 g1
      have hc8 : c < 8 := by omega
      have hti := tb_i (x := wt) (k := c) i8.bt (by omega)
      have hwc := htb c hc8
      have iM := mxv_in A w h c rm
      have bw := ws_in (f := inK B kn) (m := fun c => mxv A w h c rm) c (fun j hj hf => by
        have := (g1 j hj (bl_iff.mp hf)).2.2
        have := mxv_in A w h j rm
        omega)
      have ct1 : CT μ1 t A := hT.mv (f1 4 0 0 (by decide) (by omega)) (fun y z => f1 t y z ht.1 (fun w => ht.2 w.1))
      have wss : ws (inK B kn) (fun c => mxv A w h c rm) (c + 1) = ws (inK B kn) (fun c => mxv A w h c rm) c + (if inK B kn c then mxv A w h c rm else 0) := rfl
      refine VX1_tryHeat_4 C R ⟨fun q => absurd q (by omega), fun _ => ?_⟩
      rw [w32_s (by omega)]
      refine ⟨fun q x4 e4 => ?_, fun q => ?_⟩
      · subst e4
        rw [hti, hwc] at q
        rw [if_neg q, Int.add_zero] at wss
        rw [← wss]
        refine ih (c + 1) μ1 (by omega) f1 (fun c' hc' hk => ?_)
        by_cases y : c' = c
        · subst y; exact absurd (bl_t hk) q
        · exact g1 c' (by omega) hk
      · rw [hti, hwc] at q
        have hk := bl_iff.mp q
        rw [if_pos q] at wss
        refine c_ringE (t := t) (rm := rm) (w := w) (h := h) ct1 (by rw [f1 7 0 6 (by decide) (by omega), f1 7 0 7 (by decide) (by omega), f1 7 0 5 (by decide) (by omega)]; exact h7) hrm hw hh hc8 (hB.nc c hc8 hk) (fun μ5 f5 g5 m5 => ?_)
        rw [Int.toNat_natCast, m5]
        have F5 : ∀ x y z, x ≠ 5 → ¬ (x = 7 ∧ (y = 11 ∨ y = 12)) → μ5 x y z = μ x y z := fun x y z a b => (f5 x y z a (by omega)).trans (f1 x y z a b)
        refine ⟨⟨by omega, by omega⟩, fun q2 => ⟨⟨by omega, by omega⟩, fun x6 e6 x7 e7 => ?_⟩, fun q2 => ?_⟩
        · subst e7
          rw [w32_le (by omega) (by omega), ← wss] at e6
          subst e6
          refine ih (c + 1) μ5 (by omega) F5 (fun c' hc' hk' => ?_)
          by_cases y : c' = c
          · subst y; exact ⟨g5, m5, q2⟩
          · rw [f5 7 12 c' (by decide) (by omega)]
            exact ⟨fun j hj => by rw [f5 7 11 _ (by decide) (by omega)]; exact (g1 c' (by omega) hk').1 j hj, (g1 c' (by omega) hk').2⟩
        · refine k μ5 (μ 7 0 1 - 1) (fun x y z a b => F5 x y z a (by omega)) (Or.inl ⟨fun row' hr => ?_, F5 7 0 0 (by decide) (by omega), F5 7 0 1 (by decide) (by omega), rfl, fun q hq => F5 7 3 q (by decide) (by omega)⟩)
          exfalso
          obtain ⟨j, hj, ej⟩ := hr.1.2.1 c hc8 hk
          have := (hr.2 j hj (by omega)).1
          rw [ej, Int.toNat_natCast, ← TV_ok] at this
          have := mxv_ge A w h c rm j hj
          have := TV_in A w h c j
          omega
  exact L 8 0 μ (by omega) (fun _ _ _ _ _ => rfl) (fun c' hc' => by omega)
end FN
theorem rowSum_0 (A : m_T) (w h : Int) (row : Nat → Int) (rm : Nat) : 0 ≤ rowSum A w h row rm := (rowSum_in A w h row rm).1
/-- one heat more, from above -/
theorem BS.down {A : m_T} {B : Nat → Nat → Int} {kn rm : Nat} {w : Int} {k : Int} (hk : 0 ≤ k) {x x' : Int × Int × (Nat → Int)} {bt' : Int} (h0 : x.1 = -1 → x.2.1 = 0) (hb : BS A B kn rm w (fun heat => k < heat ∧ heat ≤ 20) x.1 x.2.1 x.2.2) (hk20 : k ≤ 20) (po : PO A w k rm (fun row' => isArr B kn rm row' ∧ rowOK A w k rm row') (x.1, x.2.1, x.2.1 - 1, x.2.2) (x'.1, x'.2.1, bt', x'.2.2)) : BS A B kn rm w (fun heat => k - 1 < heat ∧ heat ≤ 20) x'.1 x'.2.1 x'.2.2 ∧ (x'.1 = -1 → x'.2.1 = 0) := by
  rcases po with ⟨a, a1, a2, -, a4⟩ | ⟨row, b, b1, b2, b3, -, b5, b6⟩
  · have a : ∀ row', isArr B kn rm row' ∧ rowOK A w k rm row' → rowSum A w k row' rm ≤ x.2.1 - 1 := a
    have a1 : x'.1 = x.1 := a1
    have a2 : x'.2.1 = x.2.1 := a2
    have a4 : ∀ q, q < rm → x'.2.2 q = x.2.2 q := a4
    refine ⟨?_, fun z => by rw [a2]; exact h0 (by rw [← a1]; exact z)⟩
    rcases hb with ⟨c, c1⟩ | ⟨e, e0, e1, e2, e3, e4⟩
    · refine Or.inl ⟨a1.trans c, fun heat row' hh ha hok => ?_⟩
      by_cases y : heat = k
      · subst y
        have := a row' ⟨ha, hok⟩
        have := rowSum_0 A w heat row' rm
        have := h0 c
        omega
      · exact c1 heat row' ⟨by omega, hh.2⟩ ha hok
    · rw [a1, a2]
      refine Or.inr ⟨⟨by omega, e.2⟩, e0, e1.congr (fun p hp => a4 p hp), e2.congr (fun p hp => a4 p hp), by rw [rowSum_congr rm a4]; exact e3, fun heat row' hh ha hok => ?_⟩
      by_cases y : heat = k
      · subst y
        have := a row' ⟨ha, hok⟩
        exact Or.inl (by omega)
      · rcases e4 heat row' ⟨by omega, hh.2⟩ ha hok with z | ⟨z, z' | ⟨z', z''⟩⟩
        · exact Or.inl z
        · exact Or.inr ⟨z, Or.inl z'⟩
        · exact Or.inr ⟨z, Or.inr ⟨z', z''.congr (fun p hp => a4 p hp) (fun _ _ => rfl)⟩⟩
  · have b1 : ∀ q, q < rm → x'.2.2 q = row q := b1
    have b2 : x'.1 = k := b2
    have b3 : x'.2.1 = rowSum A w k row rm := b3
    have b5 : x.2.1 - 1 < rowSum A w k row rm := b5
    refine ⟨?_, fun z => by omega⟩
    rw [b2, b3]
    refine Or.inr ⟨⟨by omega, hk20⟩, hk, b.1.congr b1, b.2.congr b1, rowSum_congr rm b1, fun heat row' hh ha hok => ?_⟩
    by_cases y : heat = k
    · subst y
      rcases b6 row' ⟨ha, hok⟩ with z | ⟨z, z'⟩
      · exact Or.inl z
      · exact Or.inr ⟨z, Or.inr ⟨rfl, z'.congr b1 (fun _ _ => rfl)⟩⟩
    · rcases hb with ⟨c, c1⟩ | ⟨e, e0, e1, e2, e3, e4⟩
      · exact absurd hok (c1 heat row' ⟨by omega, hh.2⟩ ha)
      · have := e4 heat row' ⟨by omega, hh.2⟩ ha hok
        by_cases y2 : rowSum A w heat row' rm < rowSum A w k row rm
        · exact Or.inl y2
        · exact Or.inr ⟨by rcases this with z | ⟨z, -⟩ <;> omega, Or.inl (by omega)⟩
theorem PO.s_in {A : m_T} {w h : Int} {rm : Nat} {S : (Nat → Int) → Prop} {x x' : Int × Int × Int × (Nat → Int)} (hrm : rm ≤ 6) (hs : 0 ≤ x.2.1 ∧ x.2.1 ≤ 1000) (po : PO A w h rm S x x') : 0 ≤ x'.2.1 ∧ x'.2.1 ≤ 1000 := by
  rcases po with ⟨-, -, a, -⟩ | ⟨row, -, -, -, a, -⟩
  · rw [a]; exact hs
  · rw [a]
    have := rowSum_in A w h row rm
    omega
