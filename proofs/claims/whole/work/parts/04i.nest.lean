/-! ===== a nest mate's private static method ===== -/
section MSN
variable {G : m_G} {X : m_X} {Y : m_Y} {d mc ms : Nat} {S : Nat × Bool × Nat × Nat} {μ : m_M} {pc : Nat} {lv : List (Option m_V)} {st st0 : List m_V}
def m_LSN (own : String) (idx : Nat) (Y : m_Y) (n : Nat) : Prop := m_co Y ∧ m_np Y n ∧ Cond.methodLinkNest own idx Y.1 "KilnBench" ∈ m_nest ∧ Cond.static Y.1 ∈ m_w
theorem m_callSiN (C : m_Cx G X Y (d + 1) mc ms) {idx n mc1 ms1 : Nat} {Y' : m_Y} {As : List m_V} {K : Int → Nat × Bool → m_M → Prop} (hd : decode Y.2.1 pc = .ok (.invokestatic idx, 3)) (hL : m_LSN Y.1.cls idx Y' n) (hn : As.length = n) (hst : st0 = As.reverse ++ st) (hw : (st.map m_cat).sum ≤ 8) (h1 : S.2.2.1 + mc1 ≤ mc) (h2 : S.2.2.2 + ms1 ≤ ms) (hM : m_Ci G d mc1 ms1 Y' (S.1, S.2.1) As μ K)
    (k : ∀ (x : Int) (S1 : Nat × Bool) (μ1 : m_M), K x S1 μ1 → m_W G X Y (S1.1, S1.2, S.2.2.1 + mc1, S.2.2.2 + ms1) μ1 (pc + 3) lv (vI x :: st)) : m_W G X Y S μ pc lv st0 := by
  obtain ⟨p, l, e, R, s, m, args, below, meth, c, Qf⟩ := X
  obtain ⟨hx, hb, hml, hrt, hlk, hnm, hown, hts, hK, hZ, hfr, hlo, hce, hsl, hll⟩ := C
  intro H locs ls hP hf hS ho hlv
  subst hst
  have hll : l = G.2.2.2.2.2.2 := hll
  subst hll
  obtain ⟨⟨l1, l2, l3⟩, l4, l5, l6⟩ := hL
  have hoA : ∀ v ∈ As, m_ok v := fun v hv => ho v (List.mem_append_left _ (List.mem_reverse.mpr hv))
  have hok : ∀ v ∈ st, m_ok v := fun v hv => ho v (List.mem_append_right _ hv)
  have hG : GoodIn m_w (m_ws Y') := m_goodIn (fun w hw => by
    rcases List.mem_cons.mp hw with rfl | h
    · exact l1
    · exact h)
  have run := va_runSN (As := As.map (m_rv G)) (rest := st.map (m_rv G)) (g := F0 m pc ls ((As.reverse ++ st).map (m_rv G))) (below := below) (meth := meth) (e := e) (locs := locs) (cells := S.2.2.1) (slots := S.2.2.2) (H := H) ⟨hx, hb, hml, hown, hts⟩ hM ⟨va_cnB n hts hG rfl rfl rfl (hK.2.1 _ l5) (hts _ l2) l4 ⟨hfr, by show 8 + (Y'.2.2.1 + 11) + 60 * d ≤ R.locals; omega⟩, hts _ l6, trivial⟩ ⟨m_Pc_blind G hZ _ _ _, fun U hU hW => ⟨rfl, by rw [hU]; exact hP, hf, m_K.move hZ hK hS hU hW, hoA⟩⟩ rfl (by rw [List.length_map]; exact hn) hlv.1.1 (by rw [List.map_append, List.map_reverse]) (by show 2 * 0 + _ ≤ 8; rw [m_cats]; omega) hd ⟨by omega, by omega⟩
  refine va_calli run hS (fun q _ h => h) (fun q h => h) (fun r u t H1 locs1 ht hvm hw1 hB hz1 hk1 hS1 => ?_)
  have hB1 : m_Pic G u.1.1 u.2 t.heap ∧ m_fu u.1.2 u.1.1 u.2 := hB
  rw [ht] at hB1
  have kk := k r.toInt u.1 u.2 hw1 H1 locs1 ls hB1.1 hB1.2 hS1 (ok_csI (in32_t r) hok) hlv
  rw [← Int32.ofInt_toInt r]
  exact kk
theorem f_callSiN (C : mC G X Y (d + 1)) {idx n : Nat} {Y' : m_Y} {As : List m_V} {K : Int → m_M → Prop} (hd : decode Y.2.1 pc = .ok (.invokestatic idx, 3)) (hL : m_LSN Y.1.cls idx Y' n) (hn : As.length = n) (hst : st0 = As.reverse ++ st) (hw : (st.map m_cat).sum ≤ 8) (hM : c_i G d Y' As μ K)
    (k : ∀ (x : Int) (μ1 : m_M), K x μ1 → mW G X Y μ1 (pc + 3) lv (vI x :: st)) : mW G X Y μ pc lv st0 := by
  have hZ : m_Zk G := by
    obtain ⟨p, l, e, R, s, m, args, below, meth, c, Qf⟩ := X
    exact C.2.2.2.2.2.2.2.2.2.1
  exact m_callSiN C hd hL hn hst hw (Nat.le_refl _) (Nat.le_refl _) (hM hZ) (fun x S1 μ1 h => by obtain ⟨rfl, h⟩ := h; exact k x μ1 h)
end MSN
