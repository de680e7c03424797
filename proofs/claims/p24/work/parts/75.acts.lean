/-! THE LAW'S ACTS: link, sign on, join -/
theorem ck2 (σ σ' : Sg) : 2 ≤ cK σ σ' ∧ 12 ≤ cS σ σ' := by unfold cK cS; omega
theorem ag_br {σ : Sg} {i : Nat} (hc : cI σ i) {J : Int32 → Prop} (h : J (nI (if sgI σ 5 i = 0 then 0 else 1))) : (sgI σ 2 i = -1 → J 0) ∧ (¬ sgI σ 2 i = -1 → J 1) := ⟨fun e => by rw [if_pos (hc.mpr e)] at h; exact h, fun e => by rw [if_neg (fun z => e (hc.mp z))] at h; exact h⟩
theorem con_0 (σ : Sg) {s t : Nat} (hst : s ≠ t) (p : Nat) : sgI (connectL σ s t) 0 p = if p = t then sb (sgI σ 0 t) (nI s) else if p = s then sb (sgI σ 0 s) (nI t) else sgI σ 0 p := by
  show sgI (uI (uI σ 0 s (sb (sgI σ 0 s) (nI t))) 0 t (sb (sgI (uI σ 0 s (sb (sgI σ 0 s) (nI t))) 0 t) (nI s))) 0 p = _
  have e1 : sgI (uI σ 0 s (sb (sgI σ 0 s) (nI t))) 0 t = sgI σ 0 t := by rw [sgI_uI, if_neg (fun z => hst z.2.symm)]
  rw [e1, sgI_uI]
  by_cases ht : p = t
  · rw [if_pos ⟨rfl, ht⟩, if_pos ht]
  · rw [if_neg (fun z => ht z.2), if_neg ht, sgI_uI]
    by_cases hs : p = s
    · rw [if_pos ⟨rfl, hs⟩, if_pos hs]
    · rw [if_neg (fun z => hs z.2), if_neg hs]
theorem unl_0 (σ : Sg) {s t : Nat} (hst : s ≠ t) (p : Nat) : sgI (unlinkL σ s t) 0 p = if p = t then cb (sgI σ 0 t) (nI s) else if p = s then cb (sgI σ 0 s) (nI t) else sgI σ 0 p := by
  show sgI (uI (uI σ 0 s (cb (sgI σ 0 s) (nI t))) 0 t (cb (sgI (uI σ 0 s (cb (sgI σ 0 s) (nI t))) 0 t) (nI s))) 0 p = _
  have e1 : sgI (uI σ 0 s (cb (sgI σ 0 s) (nI t))) 0 t = sgI σ 0 t := by rw [sgI_uI, if_neg (fun z => hst z.2.symm)]
  rw [e1, sgI_uI]
  by_cases ht : p = t
  · rw [if_pos ⟨rfl, ht⟩, if_pos ht]
  · rw [if_neg (fun z => ht z.2), if_neg ht, sgI_uI]
    by_cases hs : p = s
    · rw [if_pos ⟨rfl, hs⟩, if_pos hs]
    · rw [if_neg (fun z => hs z.2), if_neg hs]
theorem rd_3 {M M1 M2 M3 : Mem} {cc a b : Nat} {x y z : Int32} (e1 : M1 = sI M cc 0 x) (e2 : M2 = sI M1 cc a y) (e3 : M3 = sI M2 cc b z) (j : Nat) : gI M3 cc j = if j = b then z else if j = a then y else if j = 0 then x else gI M cc j := by
  rw [e3, rd_w, e2, rd_w, e1, rd_w]
section WF
variable {A : Nat → Nat} {cc : Nat} {M : Mem} {σ : Sg} {k : Nat}
theorem mir_lk {σ' : Sg} {s t : Nat} {x y : Int32} {M1 M2 M3 M4 : Mem} (hM : Mir M cc σ) (e1 : M1 = sI M cc 0 (gI M cc 0 + 1)) (e2 : M2 = sI M1 cc (2 + s) x) (e3 : M3 = sI M2 cc (2 + t) y) (hj : ∀ j, gI M4 cc j = gI M3 cc j) (hs : s < 6) (ht : t < 6) (hk : kp σ σ') (hc : sgN σ' 1 = sgN σ 1 + 1) (hl : ∀ p, sgI σ' 0 p = if p = t then y else if p = s then x else sgI σ 0 p) : Mir M4 cc σ' := by
  have r : ∀ j, gI M4 cc j = if j = 2 + t then y else if j = 2 + s then x else if j = 0 then gI M cc 0 + 1 else gI M cc j := fun j => (hj j).trans (rd_3 e1 e2 e3 j)
  obtain ⟨m0, m1, m2, m3⟩ := hM
  refine ⟨?_, ?_, fun p hp => ?_, fun u hu => ?_⟩
  · rw [r, if_neg (by omega), if_neg (by omega), if_pos rfl, m0, nI_1, hc]
  · rw [r, if_neg (by omega), if_neg (by omega), if_neg (by omega), m1, hk.1]
  · rw [r, hl]
    by_cases e : p = t
    · rw [if_pos (by omega), if_pos e]
    · rw [if_neg (by omega), if_neg e]
      by_cases e' : p = s
      · rw [if_pos (by omega), if_pos e']
      · rw [if_neg (by omega), if_neg e', if_neg (by omega)]
        exact m2 p hp
  · rw [hk.1] at hu
    rw [r, if_neg (by omega), if_neg (by omega), if_neg (by omega), r, if_neg (by omega), if_neg (by omega), if_neg (by omega), hk.2 6 u (by omega), hk.2 7 u (by omega)]
    exact m3 u hu
theorem m_links (hW : WB A cc M σ) (hM : Mir M cc σ) (hI : Inv σ k) (hX : XI σ) (hk : k ≤ 490) {s t : Nat} (hs : s < 6) (ht : t < 6) : ∃ σ', Nx σ k σ' ∧ ∀ post : Mem → Int32 → Prop, (∀ M', WB A cc M' σ' → Mir M' cc σ' → post M' 1) → w_L_links (cK σ σ') (cS σ σ') M (A 0) cc (nI s) (nI t) post := by
  have hG := inv_G hI
  have hV := inv_V hI
  by_cases e : bt (treeL σ s) t = true
  · refine ⟨σ, nx_rf hI hX, fun post hp => a_tree hW hs ⟨Nat.zero_le _, Nat.zero_le _⟩ ⟨fun _ => a_tree hW hs ⟨Nat.zero_le _, Nat.zero_le _⟩ (a_tree hW ht ⟨Nat.zero_le _, Nat.zero_le _⟩ (fun J hJ => ⟨fun _ => hJ 1 ⟨Or.inr rfl, hp M hW hM⟩, fun z => absurd ?_ z⟩)), fun z => absurd ((hs_one _ (by omega)).mpr e) z⟩⟩
    rw [tree_clo, tree_clo]
    rw [tree_clo] at e
    exact tr_eq hG hs e
  · have hst : s ≠ t := fun z => e (by rw [← z, tree_clo]; exact clo_self _ hs)
    have hI' := inv_link hI (by omega) hs ht e
    have u1 := burst_up (connectL σ s t) hs ht
    have u2 := burst_up (burstL (connectL σ s t) s t) ht hs
    have h2 : sgN σ 2 ≤ sgN (linkL σ s t) 2 := Nat.le_trans u1.2.2.2.1 u2.2.2.2.1
    refine ⟨linkL σ s t, ⟨inv_up hI' (by omega), xi_link hI.1 hX hs ht e, h2⟩, fun post hp => ?_⟩
    refine a_tree hW hs ⟨Nat.zero_le _, Nat.zero_le _⟩ ⟨fun z => absurd ((hs_one _ (by omega)).mp z) e, fun _ => ?_⟩
    refine a_known hW hs ⟨Nat.zero_le _, Nat.zero_le _⟩ (m_count M _ (a_known hW ht ⟨Nat.zero_le _, Nat.zero_le _⟩ (m_count M _ (fun x15 e15 => a_lines hW ?_))))
    refine Lp_forX 4 (fun c => (nI (cN (sgI σ 1 s) 20 + cN (sgI σ 1 t) 20 + (chN σ s c + chN σ t c)), nI c, 0, 0)) (fun z => z.2.1.toNatClampNeg) (fun c hc => clN (by omega)) (by rw [e15, nI_add]; rfl) ?_
    intro c K hc4 hK x18 x19 k20 n21 ez
    cases ez
    refine ⟨fun ec => ?_, fun ec => ?_⟩
    · have h4 : 4 ≤ c := (le_nI (a := 4) (by omega) (by omega)).mp ec
      have h4 : c = 4 := by omega
      subst h4
      refine a_tree hW hs ⟨Nat.zero_le _, Nat.zero_le _⟩ (a_tree hW ht ⟨Nat.zero_le _, Nat.zero_le _⟩ (fun x31 e31 => ⟨in_0 hW, in_0 hW, fun M33 e33 => ?_⟩))
      have hW33 : WB A cc M33 σ := by rw [e33]; exact wb_w hW _ _
      refine ⟨in_2 hW33 hs, in_2 hW33 hs, fun M36 e36 => ?_⟩
      have hW36 : WB A cc M36 σ := by rw [e36]; exact wb_w hW33 _ _
      refine ⟨in_2 hW36 ht, in_2 hW36 ht, fun M39 e39 => ?_⟩
      have hW39 : WB A cc M39 σ := by rw [e39]; exact wb_w hW36 _ _
      refine ⟨wb_0 hW39, cK σ (linkL σ s t), cS σ (linkL σ s t), ⟨by omega, by omega⟩, c_link hW39 hI (by omega) hs ht e (by unfold cK cS; omega) (fun M44 h44 hj J49 hJ49 J52 hJ52 => ?_)⟩
      rw [ix_0] at e33
      rw [ix_2 (by omega)] at e36 e39
      have r33 : gI M33 cc (2 + s) = sgI σ 0 s := by rw [e33, rd_w, if_neg (by omega), hM.2.2.1 s hs]
      have r36 : gI M36 cc (2 + t) = sgI σ 0 t := by rw [e36, rd_w, if_neg (by omega), e33, rd_w, if_neg (by omega), hM.2.2.1 t ht]
      rw [r33] at e36
      rw [r36] at e39
      have hM44 : Mir M44 cc (linkL σ s t) := mir_lk hM e33 e36 e39 hj hs ht (kp_link σ hs ht) (clk_link σ hs ht).1 (fun p => by rw [link_lk hs ht]; exact con_0 σ hst p)
      have t1 := tot_link hI.1 hs ht
      have t2 : cN (sgI σ 1 s) 20 + cN (sgI σ 1 t) 20 + (chN σ s 4 + chN σ t 4) = dueN σ s + dueN σ t := by unfold dueN; omega
      obtain ⟨g1, g2⟩ := tr_link hG hs ht e
      refine ⟨fun _ => a_lines h44 ⟨fun _ => a_tree h44 hs ⟨by omega, by omega⟩ ⟨fun _ => a_tree h44 ht ⟨by omega, by omega⟩ ⟨fun _ => hJ49 1 _ _ ⟨Or.inr rfl, hp M44 h44 hM44⟩, fun z => absurd ?_ z⟩, fun z => absurd ?_ z⟩, fun z => absurd ?_ z⟩, fun z => absurd ?_ z⟩
      · rw [e31, g2]
      · rw [e31, g1]
      · rw [t1, t2, nI_add]
      · rw [t1, t2, nI_sub (Nat.le_add_right _ _), Nat.add_sub_cancel_left]
    · have hc : c < 4 := Nat.not_le.mp (fun z => ec ((le_nI (a := 4) (by omega) (by omega)).mpr z))
      refine a_age hW hs hc ⟨Nat.zero_le _, Nat.zero_le _⟩ (fun J72 hJ72 => ag_br (hV.1 _ (by omega)).1 (hJ72 _ (a_age hW ht hc ⟨Nat.zero_le _, Nat.zero_le _⟩ (fun J78 hJ78 => ag_br (hV.1 _ (by omega)).1 (hJ78 _ (fun x79 e79 x80 e80 => ?_))))))
      have e9 : (x79, x80) = (nI (cN (sgI σ 1 s) 20 + cN (sgI σ 1 t) 20 + (chN σ s (c + 1) + chN σ t (c + 1))), nI (c + 1)) := by
        have a1 : chN σ s (c + 1) = chN σ s c + (if sgI σ 5 (s * 4 + c) = 0 then 0 else 1) := rfl
        have a2 : chN σ t (c + 1) = chN σ t c + (if sgI σ 5 (t * 4 + c) = 0 then 0 else 1) := rfl
        rw [e79, e80, nI_add, nI_add, nI_1, a1, a2]
        congr 2
        generalize (if sgI σ 5 (s * 4 + c) = 0 then 0 else 1) = p
        generalize (if sgI σ 5 (t * 4 + c) = 0 then 0 else 1) = q
        omega
      have f1 := congrArg Prod.fst e9
      have f2 := congrArg Prod.snd e9
      have f1 : x79 = _ := f1
      have f2 : x80 = _ := f2
      rw [f1, f2]
      exact hK hc
end WF
