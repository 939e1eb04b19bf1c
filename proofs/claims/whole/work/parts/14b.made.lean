/-! ===== an object in the making; rows of references; filling, and a bench's beginning, before all is made ===== -/
def m_obF (μ : m_M) (o : Nat) (f : Nat → Int) : m_M := fun a b c => if a = o ∧ b = 0 then f c else μ a b c
theorem obF_at {μ : m_M} {o c : Nat} {f : Nat → Int} : m_obF μ o f o 0 c = f c := if_pos ⟨rfl, rfl⟩
theorem obF_ne {μ : m_M} {o a b c : Nat} {f : Nat → Int} (h : ¬ (a = o ∧ b = 0)) : m_obF μ o f a b c = μ a b c := if_neg h
theorem obF_up {μ : m_M} {o j : Nat} {f : Nat → Int} {v : Int} : m_up (m_obF μ o f) o 0 j v = m_obF μ o (fun c => if c = j then v else f c) := by
  funext a b c
  unfold m_up m_obF
  by_cases h : a = o ∧ b = 0
  · by_cases hc : c = j
    · rw [if_pos ⟨h.1, h.2, hc⟩, if_pos h]; exact (if_pos hc).symm
    · rw [if_neg (fun q => hc q.2.2), if_pos h, if_pos h]; exact (if_neg hc).symm
  · rw [if_neg (fun q => h ⟨q.1, q.2.1⟩), if_neg h, if_neg h]
theorem obF_of {μ : m_M} {o : Nat} {f : Nat → Int} (h : ∀ c, μ o 0 c = f c) : μ = m_obF μ o f := by
  funext a b c
  unfold m_obF
  by_cases q : a = o ∧ b = 0
  · rw [if_pos q, q.1, q.2]; exact h c
  · rw [if_neg q]
section MB2
variable {G : m_G} {X : m_X} {Y : m_Y} {d mc ms : Nat} {S : Nat × Bool × Nat × Nat} {μ : m_M} {pc : Nat} {lv : List (Option m_V)} {st : List m_V}
theorem m_newq (C : m_Cx G X Y d mc ms) {idx n kc ks o w len : Nat} (hd : decode Y.2.1 pc = .ok (.anewarray idx, 3)) (w1 : Cond.classLink Y.1.cls idx "KilnBench$Bench" ∈ m_w) (hq : m_E[n]? = some (o, w)) (hw : w ≠ 0) (ha : m_ar o w = (4, len)) (hlen : len ≤ 100000) (h0 : ∀ j, μ o w j = 0) (h1 : kc + 1 ≤ mc) (h2 : ks + len ≤ ms)
    (k : m_W G X Y (n + 1, false, kc + 1, ks + len) μ (pc + 3) lv (vR o w :: st)) : m_W G X Y (n, false, kc, ks) μ pc lv (vI (len : Int) :: st) := by
  obtain ⟨p, l, e, R, s, m, args, below, meth, c, Qf⟩ := X
  obtain ⟨hx, hb, hml, hrt, hlk, hnm, hown, hts, hK, hZ, hfr, hlo, hce, hsl, hll⟩ := C
  intro H locs ls hP hf hS ho hlv
  have had : m_ad G (o, w) = H.size := by
    rw [m_ad_own G (m_E_pos (o, w) (List.mem_of_getElem? hq)), m_E_ix hq]
    exact hP.1.symm
  have hi : in32 (len : Int) := by unfold in32; omega
  have hcl : (Int32.ofInt (len : Int)).toNatClampNeg = len := by rw [o32_cl hi, Int.toNat_natCast]
  refine W.anew hx hb hown (hts _ w1) (va_AO.use hK.2.2.1) rfl hd rfl (by rw [o32_0, o32_lt hi in32_0]; omega) (by rw [hcl]; omega) (by show kc + 1 ≤ R.cells; omega) (by rw [hcl]; show ks + len ≤ R.slots; omega) fun cA kA comp f1 f2 f3 f4 => ?_
  rw [hcl]
  generalize hH1 : H.push ({ cls := cA, slots := Array.replicate len .null, vm := .none } : Cell) = H1
  have z1 : H1.size = H.size + 1 := by rw [← hH1, Array.size_push]
  have e1 : H1[H.size]? = some (arrV cA len (fun _ => .null)) := by rw [← hH1, Array.getElem?_push_size, ← arrV_new]
  have o1 : ∀ q : Nat, q < H.size → H1[q]? = H[q]? := fun q hq => by rw [← hH1, Array.getElem?_push, if_neg (Nat.ne_of_lt hq)]
  obtain ⟨kA', comp', k1, k2, k3, k4⟩ := (hK.1.2 4 _ rfl).2
  have hcA : cA = G.2.2.1 4 := Option.some.inj (f1.symm.trans k4)
  have kk := k H1 locs ls (hP.push hq z1 o1 (by
    unfold m_at
    rw [if_neg hw, ha, had, e1, hcA]
    refine ⟨?_, fun j => ?_⟩
    · congr 2
      funext j
      show _ = m_ev G 4 (μ o w j)
      rw [h0 j]
      rfl
    · show m_er 4 (μ o w j)
      exact trivial)) (fun hb => by cases hb) ⟨Nat.le_trans hS.1 (by omega), fun x h1 h2 => (o1 x (Nat.lt_of_lt_of_le h1 hS.1)).trans (hS.2.1 x h1 h2), hS.2.2⟩ (ok_cs (a := vR o w) trivial (ok_tl ho)) hlv
  rw [← had]
  exact kk
theorem m_aast (C : m_Cx G X Y d mc ms) {o w len t : Nat} {i : Int} (hd : decode Y.2.1 pc = .ok (.aastore, 1)) (hE : m_E.idxOf (o, w) < S.1) (hw : w ≠ 0) (ha : m_ar o w = (4, len)) (h0 : 0 ≤ i) (h1 : i < len) (hT : m_E.idxOf (t, 0) < S.1) (hct : m_cls t = 0) (hfu : S.2.1 = false)
    (k : m_W G X Y S (m_up μ o w i.toNat (100 * (t : Int))) (pc + 1) lv st) : m_W G X Y S μ pc lv (vR t 0 :: vI i :: vR o w :: st) := by
  obtain ⟨p, l, e, R, s, m, args, below, meth, c, Qf⟩ := X
  obtain ⟨hx, hb, -, -, -, -, hown, hts, hK, -⟩ := C
  intro H locs ls hP hf hS hst hl
  have hcell := m_cell hP hE
  unfold m_at at hcell
  rw [if_neg hw, ha] at hcell
  have hi : in32 i := ok_hdI (ok_tl hst)
  have hcT := m_cell hP hT
  unfold m_at at hcT
  rw [if_pos rfl, hct] at hcT
  obtain ⟨⟨cellV, g1, g2, g3, -⟩, -⟩ := hcT
  have hcls := (hK.1.1 0 _ rfl).2
  obtain ⟨kA, comp, k1, k2, k3, -⟩ := (hK.1.2 4 _ rfl).2
  have hcomp : comp = G.1.1 0 := Option.some.inj (k3.symm.trans hcls.1)
  subst hcomp
  obtain ⟨kC, hkC, -⟩ := hcls.2
  have ht0 : t ≠ 0 := m_cls0 hct (by decide)
  refine W.aast hx hb hcell.1 (fun q h => by cases h) (fun h => by cases h) k1 k2 rfl hkC ⟨by rw [o32_0, o32_lt hi in32_0]; omega, by rw [arrV_size, o32_cl hi]; omega⟩ g1 (fun q h => by rw [g3] at h; cases h) (by rw [g2]; exact hkC) (by rw [g2]; exact va_assign hcls) rfl rfl hd fun H1 e1 z1 o1 => ?_
  refine k H1 _ ls (hP.put hE z1 o1 ?_) (fun h => by rw [hfu] at h; cases h) (hS.put z1 o1 (m_A_ad hE hP.2.1)) (ok_tl (ok_tl (ok_tl hst))) hl
  unfold m_at
  rw [if_neg hw, ha]
  refine ⟨?_, fun q => ?_⟩
  · rw [e1, o32_cl hi, arrV_store]
    congr 2
    funext q
    by_cases hq : q = i.toNat
    · subst hq
      simp only [updV, if_true]
      rw [m_up_at]
      show Value.ref _ = m_rf G _
      rw [m_rf_of G (t := t) (w := 0) (by omega) (by decide) ht0]
    · simp only [updV, if_neg hq]
      rw [m_up_ne _ _ (fun z => hq z.2.2)]
  · show m_er 4 _
    exact trivial
/-- Arrays.fill, at any time -/
theorem i_fill {o w n : Nat} {v : Int} {S : Nat × Bool} {K : Nat × Bool → m_M → Prop} (hZ : m_Zk G) (hE : m_E.idxOf (o, w) < S.1) (ha : m_ar o w = (0, n)) (hw : w ≠ 0) (hn : n < 2147483648) (h : K S (m_fl μ o w n v)) : m_Cv G d 0 0 YJ7_fill_53178 S [vR o w, vI v] μ K := by
  refine m_enter (by decide) (Nat.le_of_ble_eq_true rfl) hZ (fun X C R => ?_)
  show m_W G X YJ7_fill_53178 (S.1, S.2, 0, 0) μ 0 [some (vR o w), some (vI v), none, none] []
  refine m_iconst C dJ7_fill_53178_0 (by unfold in32; omega) ?_
  refine m_istore_n C dJ7_fill_53178_1 (by decide) ?_
  show m_W G X YJ7_fill_53178 (S.1, S.2, 0, 0) μ 2 [some (vR o w), some (vI v), some (vI 0), none] []
  refine m_aload_n C dJ7_fill_53178_2 rfl ?_
  refine m_alen C dJ7_fill_53178_3 hE hw ha (by decide) hn ?_
  refine m_istore_n C dJ7_fill_53178_4 (by decide) ?_
  have L : ∀ r i : Nat, i + r = n → ∀ μ1 : m_M, (∀ a b c, μ1 a b c = m_fl μ o w i v a b c) → m_W G X YJ7_fill_53178 (S.1, S.2, 0, 0) μ1 5 [some (vR o w), some (vI v), some (vI (i : Int)), some (vI (n : Int))] [] := by
    intro r
    induction r with
    | zero =>
      intro i hi μ1 e
      have e1 : μ1 = m_fl μ o w n v := by funext a b c; rw [e, show i = n by omega]
      subst e1
      refine m_iload_n C dJ7_fill_53178_5 rfl ?_
      refine m_iload_n C dJ7_fill_53178_6 rfl ?_
      refine m_icmp_ge C dJ7_fill_53178_7 (tgt := 20) rfl (fun _ => ?_) (fun z => absurd (by omega) z)
      exact m_vret C R rfl dJ7_fill_53178_20 (Nat.le_refl _) (Nat.le_refl _) h
    | succ r ih =>
      intro i hi μ1 e
      refine m_iload_n C dJ7_fill_53178_5 rfl ?_
      refine m_iload_n C dJ7_fill_53178_6 rfl ?_
      refine m_icmp_ge C dJ7_fill_53178_7 (tgt := 20) rfl (fun z => absurd z (by omega)) (fun _ => ?_)
      refine m_aload_n C dJ7_fill_53178_10 rfl ?_
      refine m_iload_n C dJ7_fill_53178_11 rfl ?_
      refine m_iload_n C dJ7_fill_53178_12 rfl ?_
      refine m_iast C dJ7_fill_53178_13 hE hw ha (by omega) (by omega) ?_
      refine m_iinc C dJ7_fill_53178_14 rfl (by decide) ?_
      refine m_goto C dJ7_fill_53178_17 (tgt := 5) rfl ?_
      rw [Int.toNat_natCast, w32_s (by omega)]
      refine ih (i + 1) (by omega) _ (fun a b c => ?_)
      simp only [m_up, m_fl, e]
      by_cases h1 : a = o ∧ b = w ∧ c = i
      · rw [if_pos h1, if_pos ⟨h1.1, h1.2.1, by omega⟩]
      · rw [if_neg h1]
        by_cases h2 : a = o ∧ b = w ∧ c < i
        · rw [if_pos h2, if_pos ⟨h2.1, h2.2.1, by omega⟩]
        · rw [if_neg h2, if_neg (fun z => h1 ⟨z.1, z.2.1, by have := z.2.2; have : ¬ c < i := fun q => h2 ⟨z.1, z.2.1, q⟩; omega⟩)]
  exact L n 0 (by omega) μ (fun a b c => by unfold m_fl; rw [if_neg (fun z => by have := z.2.2; omega)])
end MB2
