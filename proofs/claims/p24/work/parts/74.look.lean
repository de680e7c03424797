/-! THE LAW'S LOOKS: a line delivered, all views, a quiet net -/
theorem d10 : ¬ (1 : Int32) = 0 := by decide
theorem settle_same (a x : Int32) : settle a x a x = x := by
  unfold settle
  split
  · rfl
  · rename_i ha
    rw [if_pos rfl]
    exact b_ext (fun i _ => by rw [b_or, Bool.or_self])
theorem ng_m1 {x : Int32} (h : ng x) : ¬ x = -1 := fun e => by
  have h1 : bt x 31 = false := h
  rw [e, b_m1 31 (by omega)] at h1
  cases h1
/-- the names that are known below n -/
def nmL (σ : Sg) (s : Nat) : Nat → Int32
  | 0 => 0
  | u + 1 => if bt (sgI σ 1 s) u = true then nmL σ s u ||| (1 <<< (sgI σ 6 u &&& 31)) else nmL σ s u
theorem nm_bt {σ : Sg} {k : Nat} (hI : Inv σ k) (s : Nat) : ∀ n, n ≤ sgN σ 0 → ∀ i, i < 26 → bt (nmL σ s n) i = true → ∃ v, v < n ∧ bt (sgI σ 1 s) v = true ∧ sgI σ 6 v = nI i := by
  intro n
  induction n with
  | zero => intro _ i _ h; rw [show nmL σ s 0 = 0 from rfl, b_0] at h; cases h
  | succ n ih =>
    intro hn i hi h
    by_cases e : bt (sgI σ 1 s) n = true
    · have e1 : nmL σ s (n + 1) = nmL σ s n ||| (1 <<< (sgI σ 6 n &&& 31)) := if_pos e
      obtain ⟨l, hl, hle⟩ := lt_ex hI (show n < sgN σ 0 by omega)
      rw [e1, b_or, Bool.or_eq_true, hle, b_pow (by omega) (by omega), decide_eq_true_eq] at h
      rcases h with h | h
      · obtain ⟨v, h1, h2⟩ := ih (by omega) i hi h
        exact ⟨v, by omega, h2⟩
      · exact ⟨n, by omega, e, by rw [hle, h]⟩
    · have e1 : nmL σ s (n + 1) = nmL σ s n := if_neg e
      rw [e1] at h
      obtain ⟨v, h1, h2⟩ := ih (by omega) i hi h
      exact ⟨v, by omega, h2⟩
section WE
variable {A : Nat → Nat} {cc : Nat} {M : Mem} {σ : Sg} {k : Nat}
theorem m_delivers (hW : WB A cc M σ) (hM : Mir M cc σ) (hI : Inv σ k) (hk : k ≤ 499) {s o : Nat} (hs : s < 6) (ho : o < 6) (hb : bt (sgI σ 0 s) o = true) (hlo : ∀ j, j < o → ¬ bt (sgI σ 0 s) j = true) (hq : sgQ σ (s * 6 + o) ≠ []) {mc ms : Nat} (hc : sgN (dlvL σ s o) 2 - sgN σ 2 + 1 ≤ mc ∧ 8 * (sgN (dlvL σ s o) 2 - sgN σ 2) + 6 ≤ ms) {post : Mem → Int32 → Prop} (hp : ∀ M', WB A cc M' (tickL (dlvL σ s o)) → Mir M' cc (tickL (dlvL σ s o)) → post M' 1) : w_L_delivers mc ms M (A 0) cc (nI s) post := by
  refine Lp_forX o (fun c => nI c) (fun z => z.toNatClampNeg) (fun c hc => clN (by omega)) rfl ?_
  intro c K hco hK x1 ez
  have ez : nI c = x1 := ez
  subst ez
  have hx : gI M cc (Int32.toNatClampNeg (2 + nI s)) = sgI σ 0 s := by rw [ix_2 (by omega), hM.2.2.1 s hs]
  refine ⟨in_2 hW hs, ?_⟩
  rw [hx]
  refine ⟨fun e x21 e21 => ?_, fun e => ?_⟩
  · have h1 := (hs_ex _ (by omega)).mp e
    have h2 : c < o := by
      rcases Nat.lt_or_ge c o with g | g
      · exact g
      · have g2 : c = o := by omega
        rw [g2, hb] at h1
        cases h1
    have e2 : x21 = nI (c + 1) := by rw [e21, nI_1]
    rw [e2]
    exact hK h2
  · have h1 : bt (sgI σ 0 s) c = true := Classical.byContradiction (fun z => e ((hs_ex _ (by omega)).mpr (bt_false z)))
    have h2 : c = o := by
      rcases Nat.lt_or_ge c o with g | g
      · exact absurd h1 (hlo c g)
      · omega
    subst h2
    refine a_lines hW ⟨in_0 hW, in_0 hW, fun M7 e7 => ?_⟩
    subst e7
    have hW7 := wb_w hW (Int32.toNatClampNeg 0) (gI M cc (Int32.toNatClampNeg 0) + 1)
    refine ⟨wb_0 hW7, mc, ms, ⟨by omega, by omega⟩, c_deliver hW7 hI (by omega) hs ho hb hq hc (fun M12 h12 hj J15 hJ15 J16 hJ16 => ?_)⟩
    have hM12 : Mir M12 cc (tickL (dlvL σ s c)) := mir_tick hM hj (kp_dlv σ s c) (by show sgN (dlvL σ s c) 1 + 1 = _; rw [dlv_N σ s c 1 (by decide)]) (fun t _ => dlv_I σ s c 0 t (Or.inl rfl))
    have t1 := dlv_tot hI.1 hs ho
    have t2 := inv_tot (inv_dlv hI (by omega) hs ho)
    have t3 : tot (tickL (dlvL σ s c)) = tot (dlvL σ s c) := rfl
    have t4 := inv_tot hI
    have t5 : 1 ≤ tot σ := by
      have := tot_ge σ (show s * 6 + c < 36 by omega)
      cases hz : sgQ σ (s * 6 + c) with
      | nil => exact absurd hz hq
      | cons a l => rw [hz, List.length_cons] at this; omega
    have t6 : ¬ nI (tot (dlvL σ s c)) < nI (tot σ) - 1 := by
      rw [show nI (tot σ) - 1 = nI (tot σ - 1) from nI_sub (b := 1) t5]
      exact nI_nlt (by omega) (by omega)
    exact ⟨fun z => absurd z t6, fun _ => a_lines h12 ⟨fun z => absurd z t6, fun _ => hJ15 1 ⟨Or.inr rfl, hp M12 h12 hM12⟩⟩⟩
theorem kn_ho (hI : Inv σ k) (hX : XI σ) {s : Nat} (hs : s < 6) : sgI σ 1 s &&& (hoN σ (treeL σ s) (sgN σ 0) ^^^ (-1)) = 0 := b_ext (fun i hi => by
  rw [b_and, b_xor, b_m1 i hi, ho_bt hI _ _ (Nat.le_refl _) i hi, b_0]
  cases hb : bt (sgI σ 1 s) i with
  | false => rfl
  | true =>
    have h1 := (inv_V hI).2.2.1 s i hs hb
    have h2 := hX.1 s i hs hb
    rw [tree_clo, h2, decide_eq_true h1]
    rfl)
theorem mem_kn (hI : Inv σ k) {s c : Nat} (hs : s < 6) (hc : c < 4) : sgI σ 5 (s * 4 + c) &&& (sgI σ 1 s ^^^ (-1)) = 0 := b_ext (fun i hi => by
  rw [b_and, b_xor, b_m1 i hi, b_0]
  cases hb : bt (sgI σ 5 (s * 4 + c)) i with
  | false => rfl
  | true =>
    rw [(inv_V hI).2.2.2 s c i hs hc hb]
    rfl)
theorem m_quiet (hW : WB A cc M σ) (hM : Mir M cc σ) (hI : Inv σ k) (hX : XI σ) {mc ms : Nat} {post : Int32 → Prop} (hp : post 1) : w_L_areQuiet mc ms M (A 0) cc post := by
  have h20 := inv_u hI
  have hG := inv_G hI
  refine Lp_forX (sgN σ 0) (fun u => ((1 : Int32), nI u, 0, 0)) (fun z => z.2.1.toNatClampNeg) (fun c hc => clN (by omega)) rfl ?_
  intro u K hu hK x1 x2 k3 n4 ez
  cases ez
  refine ⟨in_1 hW, fun J7 hJ7 => ?_⟩
  rw [ix_1, hM.2.1]
  refine ⟨fun _ => hJ7 ⟨Or.inr rfl, hp⟩, fun e => ⟨fun z => absurd z d10, fun _ => ?_⟩⟩
  have h1 : u < sgN σ 0 := Nat.not_le.mp (fun z => e ((le_nI (by omega) (by omega)).mpr z))
  obtain ⟨hm, hh, he, hme⟩ := hm_ex hI h1
  refine ⟨in_28 hW (by omega), fun x9 e9 => ?_⟩
  rw [ix_28 (by omega), (hM.2.2.2 u h1).2, he] at e9
  subst e9
  refine Lp_forX 6 (fun t => ((1 : Int32), nI t, 0, 0)) (fun z => z.2.1.toNatClampNeg) (fun c hc => clN (by omega)) rfl ?_
  intro t K2 ht hK2 x10 x11 k12 n13 ez
  cases ez
  intro J15 hJ15
  refine ⟨fun _ => hJ15 (fun x16 e16 => by rw [e16, nI_1]; exact hK h1), fun e2 => ⟨fun z => absurd z d10, fun _ => ?_⟩⟩
  have h2 : t < 6 := Nat.not_le.mp (fun z => e2 ((le_nI (a := 6) (by omega) (by omega)).mpr z))
  refine a_tree hW hh ⟨Nat.zero_le _, Nat.zero_le _⟩ (fun J22 hJ22 => ⟨fun _ => hJ22 1 (fun J26 hJ26 J30 hJ30 => ⟨fun z => absurd z d10, fun _ => hJ30 _ _ (hJ26 1 _ _ (fun x27 e27 => by rw [e27, nI_1]; exact hK2 h2))⟩), fun eb => hJ22 0 (fun J26 hJ26 J30 hJ30 => ⟨fun _ => a_known hW h2 ⟨Nat.zero_le _, Nat.zero_le _⟩ ⟨fun _ => hJ30 _ _ (hJ26 1 _ _ (fun x27 e27 => by rw [e27, nI_1]; exact hK2 h2)), fun z => absurd ((hs_ex _ (by omega)).mpr (bt_false (fun hb => eb ?_))) z⟩, fun z => absurd rfl z⟩)⟩)
  have g1 := hX.1 t u h2 hb
  rw [hme] at g1
  rw [tree_clo]
  exact (hs_one _ (by omega)).mpr (tr_sym hG.1 hG.2.1 h2 g1)
theorem m_views (hW : WB A cc M σ) (hM : Mir M cc σ) (hI : Inv σ k) (hX : XI σ) {mc ms : Nat} {post : Int32 → Prop} (hp : post 1) : w_L_areViews mc ms M (A 0) cc post := by
  have h20 := inv_u hI
  have hG := inv_G hI
  have hV := inv_V hI
  refine a_clock hW ⟨in_0 hW, fun J5 hJ5 J121 hJ121 => ?_⟩
  rw [ix_0, hM.1, ix_1, hM.2.1]
  refine ⟨fun _ => a_users hW ⟨in_1 hW, fun _ => hJ5 1 ?_, fun z => absurd rfl z⟩, fun z => absurd rfl z⟩
  refine Lp_forX 6 (fun s => ((1 : Int32), nI s, 0, 0)) (fun z => z.2.1.toNatClampNeg) (fun c hc => clN (by omega)) rfl ?_
  intro s K hs6 hK x6 x7 k8 n9 ez
  cases ez
  intro J11 hJ11
  refine ⟨fun _ => hJ11 ⟨Or.inr rfl, hp⟩, fun e => ⟨fun z => absurd z d10, fun _ => ?_⟩⟩
  have hs : s < 6 := Nat.not_le.mp (fun z => e ((le_nI (a := 6) (by omega) (by omega)).mpr z))
  refine a_known hW hs ⟨Nat.zero_le _, Nat.zero_le _⟩ (a_tree hW hs ⟨Nat.zero_le _, Nat.zero_le _⟩ (m_homes hW hM hI _ (fun J24 hJ24 J106 hJ106 => ⟨fun _ => a_tree hW hs ⟨Nat.zero_le _, Nat.zero_le _⟩ ⟨fun _ => a_same hW hs hs ⟨Nat.zero_le _, Nat.zero_le _⟩ (fun _ => ⟨fun z => absurd z d10, fun _ => hJ24 1 0 0 ?_⟩) (fun z => absurd ⟨rfl, fun _ _ => ⟨rfl, rfl, rfl, rfl⟩⟩ z), fun z => absurd ((hs_one _ (by omega)).mpr (by rw [tree_clo]; exact clo_self _ hs)) z⟩, fun z => absurd (kn_ho hI hX hs) z⟩)))
  refine Lp_forX (sgN σ 0) (fun u => ((1 : Int32), nmL σ s u, nI u)) (fun z => z.2.2.toNatClampNeg) (fun c hc => clN (by omega)) rfl ?_
  intro u K2 hu hK2 x25 x26 x27 ez
  cases ez
  refine ⟨in_1 hW, fun J30 hJ30 => ?_⟩
  rw [ix_1, hM.2.1]
  refine ⟨fun _ => hJ30 ?_, fun e2 => ⟨fun z => absurd z d10, fun _ J92 hJ92 => ?_⟩⟩
  · refine Lp_forX 4 (fun c => ((1 : Int32), nI c, 0, 0)) (fun z => z.2.1.toNatClampNeg) (fun c hc => clN (by omega)) rfl ?_
    intro c K3 hc4 hK3 x31 x32 k33 n34 ez
    cases ez
    intro J36 hJ36
    refine ⟨fun _ => hJ36 (fun x37 e37 => by rw [e37, nI_1]; exact hK hs), fun e3 => ⟨fun z => absurd z d10, fun _ => ?_⟩⟩
    have hc : c < 4 := Nat.not_le.mp (fun z => e3 ((le_nI (a := 4) (by omega) (by omega)).mpr z))
    have hi : s * 4 + c < 24 := by omega
    have nx : ∀ x48, x48 = nI c + 1 → K3 (1, x48, 0, 0) := fun x48 e48 => by rw [e48, nI_1]; exact hK3 hc
    refine a_members hW hs hc ⟨Nat.zero_le _, Nat.zero_le _⟩ (fun J43 hJ43 => ?_)
    by_cases e5 : sgI σ 5 (s * 4 + c) = 0
    · have ha := (hV.1 _ hi).1.mp e5
      obtain ⟨hm, hb⟩ := (hV.1 _ hi).2 ha
      exact ⟨fun _ => hJ43 0 (fun J47 hJ47 J51 hJ51 => ⟨fun _ => a_age hW hs hc ⟨Nat.zero_le _, Nat.zero_le _⟩ (fun J57 hJ57 => ⟨fun _ => hJ57 0 ⟨fun _ => a_modes hW hs hc ⟨Nat.zero_le _, Nat.zero_le _⟩ (fun J63 hJ63 => ⟨fun _ => hJ63 0 ⟨fun _ => a_bans hW hs hc ⟨Nat.zero_le _, Nat.zero_le _⟩ (fun J69 hJ69 => ⟨fun _ => hJ69 0 ⟨fun _ => a_joined hW hs hs hc ⟨Nat.zero_le _, Nat.zero_le _⟩ (a_modes hW hs hc ⟨Nat.zero_le _, Nat.zero_le _⟩ ⟨fun _ => hJ47 1 _ _ nx, fun z => absurd (settle_same _ _) z⟩), fun z => absurd rfl z⟩, fun z => absurd hb z⟩), fun z => absurd rfl z⟩, fun z => absurd hm z⟩), fun z => absurd rfl z⟩, fun z => absurd ha z⟩), fun z => absurd (mem_kn hI hs hc) z⟩), fun z => absurd e5 z⟩
    · have ha : ¬ sgI σ 2 (s * 4 + c) = -1 := fun z => e5 ((hV.1 _ hi).1.mpr z)
      obtain ⟨hm, hb⟩ := hX.2.1 _ hi e5
      have hm := ng_m1 hm
      have hb := ng_m1 hb
      exact ⟨fun z => absurd z e5, fun _ => hJ43 1 (fun J47 hJ47 J51 hJ51 => ⟨fun _ => a_age hW hs hc ⟨Nat.zero_le _, Nat.zero_le _⟩ (fun J57 hJ57 => ⟨fun z => absurd z ha, fun _ => hJ57 1 ⟨fun _ => a_modes hW hs hc ⟨Nat.zero_le _, Nat.zero_le _⟩ (fun J63 hJ63 => ⟨fun z => absurd z hm, fun _ => hJ63 1 ⟨fun _ => a_bans hW hs hc ⟨Nat.zero_le _, Nat.zero_le _⟩ (fun J69 hJ69 => ⟨fun z => absurd z hb, fun _ => hJ69 1 ⟨fun _ => a_joined hW hs hs hc ⟨Nat.zero_le _, Nat.zero_le _⟩ (a_modes hW hs hc ⟨Nat.zero_le _, Nat.zero_le _⟩ ⟨fun _ => hJ47 1 _ _ nx, fun z => absurd (settle_same _ _) z⟩), fun z => absurd rfl z⟩⟩), fun z => absurd rfl z⟩⟩), fun z => absurd rfl z⟩⟩), fun z => absurd (mem_kn hI hs hc) z⟩)⟩
  · have h1 : u < sgN σ 0 := Nat.not_le.mp (fun z => e2 ((le_nI (by omega) (by omega)).mpr z))
    obtain ⟨l, hl, hle⟩ := lt_ex hI h1
    have r8 : gI M cc (Int32.toNatClampNeg (8 + nI u)) = nI l := by rw [ix_8 (by omega), (hM.2.2.2 u h1).1, hle]
    rw [r8]
    refine ⟨fun eb => ⟨in_8 hW (by omega), fun J96 hJ96 => ⟨fun _ => hJ96 1 ⟨in_8 hW (by omega), fun x98 e98 => hJ92 1 x98 (fun x93 e93 => ?_)⟩, fun z => absurd ?_ z⟩⟩, fun eb => hJ92 1 _ (fun x93 e93 => ?_)⟩
    · have hb := (hs_one _ (by omega)).mp eb
      have e1 : nmL σ s (u + 1) = nmL σ s u ||| (1 <<< (sgI σ 6 u &&& 31)) := if_pos hb
      have e9 : ((1 : Int32), x98, x93) = (1, nmL σ s (u + 1), nI (u + 1)) := by rw [e98, e93, nI_1, e1, hle]
      rw [e9]
      exact hK2 h1
    · have hb := (hs_one _ (by omega)).mp eb
      refine (hs_ex _ (by omega)).mpr (bt_false (fun hz => ?_))
      obtain ⟨v, v1, v2, v3⟩ := nm_bt hI s u (by omega) l hl hz
      have := hV.2.1 s hs v u (by omega) h1 v2 hb (by rw [v3, hle])
      omega
    · have hb : ¬ bt (sgI σ 1 s) u = true := fun z => eb ((hs_one _ (by omega)).mpr z)
      have e1 : nmL σ s (u + 1) = nmL σ s u := if_neg hb
      have e9 : ((1 : Int32), nmL σ s u, x93) = (1, nmL σ s (u + 1), nI (u + 1)) := by rw [e93, nI_1, e1]
      rw [e9]
      exact hK2 h1
end WE
