def cw_colourAt (post : Int32 → Mem → Prop) (S : Mem) (k : Nat) (l1 : Int32) (l2 : Int32) : Prop :=
  cw_topShapeAt (fun r1 S1 =>
   ((¬ r1 = (-1) → (vp_in r1 24))) ∧ 
   post (if r1 = (-1) then (-1) else (S1 ((k + 2) + r1.toNatClampNeg) 6) : Int32) S1) S k l1 l2
set_option maxRecDepth 100000 in
set_option maxHeartbeats 1000000 in
theorem zcw_colourAt {g : Gm} {G : Gp} {S : Mem} {post : Int32 → Mem → Prop} {k : Nat} {l1 : Int32} {l2 : Int32} (hx : G.2.2.2 = false) (hG : isD G) (h_k : isW G k) (hw : cw_colourAt post S k l1 l2) : Z g M_w_colourAt 0 0 0 (entryL [.ref k, .int l1, .int l2] (mL M_w_colourAt)) [] (S, G) (Qi G post noEx) := by
  unfold cw_colourAt at hw
  show Z g M_w_colourAt 0 0 0 [some (.ref k), some (.int l1), some (.int l2), none] [] (S, G) (Qi G post noEx)
  refine z_aload_n rfl rfl ?_
  refine z_iload_n rfl rfl ?_
  refine z_iload_n rfl rfl ?_
  refine z_cvi (M' := M_w_topShapeAt) [.int l1, .int l2] hx rfl w_651 cv_w_topShapeAt h_k.1 (by decide) rfl rfl rfl rfl (zcw_topShapeAt hx hG h_k hw) ?_ (fun _ _ hf => hf.elim)
  clear hw
  intro r1 S1 hw
  refine z_istore_n [some (.ref k), some (.int l1), some (.int l2), some (.int r1)] rfl rfl rfl ?_
  refine z_iload_n rfl rfl ?_
  refine z_iconst (-1) rfl rfl ?_
  obtain ⟨hc1, hw⟩ := hw
  have hj9 : ∀ v : Int32, v = (if r1 = (-1) then (-1) else (S1 ((k + 2) + r1.toNatClampNeg) 6) : Int32) → Z g M_w_colourAt 0 0 25 [some (.ref k), some (.int l1), some (.int l2), some (.int r1)] [.int v] (S1, G) (Qi G post noEx) := by
    intro v hv
    subst hv
    exact z_iret rfl rfl rfl rfl (Or.inl ⟨_, _, rfl, rfl, hw⟩)
  refine z_icmp_ne rfl (fun hp9 => ?_) (fun hp9 => ?_)
  · refine z_aload_n rfl rfl ?_
    refine z_getr (ci := 6) 0 rfl h_k.1 rfl w_151 h_k.2.1 ?_
    refine z_iload_n rfl rfl ?_
    refine z_aaldI rfl h_k.2.2.1.1 (hc1 hp9) (h_k.2.2.1.2 _ (vlt (hc1 hp9))).1 ?_
    refine z_geti (ci := 5) 6 rfl (h_k.2.2.1.2 _ (vlt (hc1 hp9))).2 rfl w_131 ?_
    exact hj9 _ (by rw [if_neg hp9])
  · refine z_iconst (-1) rfl rfl ?_
    refine z_goto rfl ?_
    exact hj9 _ (by rw [if_pos hp9])
def ci_liesIn (post : Int32 → Mem → Prop) (S : Mem) (k : Nat) (l1 : Int32) (l2 : Int32) (l3 : Int32) (l4 : Int32) : Prop :=
  ci_isShape (fun r1 S1 =>
   vp_nar .boolean (if r1 = 0 then 0 else (if (S1 k 2) < l1 then 0 else (if (S1 k 3) < l2 then 0 else (if l3 < ((S1 k 2) + (S1 k 4)) then 0 else (if l4 < ((S1 k 3) + (S1 k 5)) then 0 else 1 : Int32) : Int32) : Int32) : Int32) : Int32) = (if r1 = 0 then 0 else (if (S1 k 2) < l1 then 0 else (if (S1 k 3) < l2 then 0 else (if l3 < ((S1 k 2) + (S1 k 4)) then 0 else (if l4 < ((S1 k 3) + (S1 k 5)) then 0 else 1 : Int32) : Int32) : Int32) : Int32) : Int32) ∧ post (if r1 = 0 then 0 else (if (S1 k 2) < l1 then 0 else (if (S1 k 3) < l2 then 0 else (if l3 < ((S1 k 2) + (S1 k 4)) then 0 else (if l4 < ((S1 k 3) + (S1 k 5)) then 0 else 1 : Int32) : Int32) : Int32) : Int32) : Int32) S1) S k
set_option maxRecDepth 100000 in
set_option maxHeartbeats 1000000 in
theorem zci_liesIn {g : Gm} {G : Gp} {S : Mem} {post : Int32 → Mem → Prop} {k : Nat} {l1 : Int32} {l2 : Int32} {l3 : Int32} {l4 : Int32} (hx : G.2.2.2 = false) (hG : isD G) (h_k : isI G k) (hw : ci_liesIn post S k l1 l2 l3 l4) : Z g M_i_liesIn 0 0 0 (entryL [.ref k, .int l1, .int l2, .int l3, .int l4] (mL M_i_liesIn)) [] (S, G) (Qi G post noEx) := by
  unfold ci_liesIn at hw
  show Z g M_i_liesIn 0 0 0 [some (.ref k), some (.int l1), some (.int l2), some (.int l3), some (.int l4)] [] (S, G) (Qi G post noEx)
  refine z_aload_n rfl rfl ?_
  refine z_cvi (M' := M_i_isShape) [] hx rfl w_219 cv_i_isShape h_k (by decide) rfl rfl rfl rfl (zci_isShape hx hG h_k hw) ?_ (fun _ _ hf => hf.elim)
  clear hw
  intro r1 S1 hw
  have hj4 : ∀ v : Int32, v = (if r1 = 0 then 0 else (if (S1 k 2) < l1 then 0 else (if (S1 k 3) < l2 then 0 else (if l3 < ((S1 k 2) + (S1 k 4)) then 0 else (if l4 < ((S1 k 3) + (S1 k 5)) then 0 else 1 : Int32) : Int32) : Int32) : Int32) : Int32) → Z g M_i_liesIn 0 0 55 [some (.ref k), some (.int l1), some (.int l2), some (.int l3), some (.int l4)] [.int v] (S1, G) (Qi G post noEx) := by
    intro v hv
    subst hv
    obtain ⟨hc1, hw⟩ := hw
    exact z_zret rfl rfl (nar_of hc1) rfl rfl (Or.inl ⟨_, _, rfl, rfl, hw⟩)
  refine z_if_eq rfl (fun hp4 => ?_) (fun hp4 => ?_)
  · refine z_iconst 0 rfl rfl ?_
    exact hj4 _ (by rw [if_pos hp4])
  · refine z_iload_n rfl rfl ?_
    refine z_aload_n rfl rfl ?_
    refine z_geti (ci := 5) 2 rfl h_k rfl w_122 ?_
    refine z_icmp_gt rfl (fun hp12 => ?_) (fun hp12 => ?_)
    · refine z_iconst 0 rfl rfl ?_
      exact hj4 _ (by rw [if_neg hp4, if_pos hp12])
    · refine z_iload_n rfl rfl ?_
      refine z_aload_n rfl rfl ?_
      refine z_geti (ci := 5) 3 rfl h_k rfl w_124 ?_
      refine z_icmp_gt rfl (fun hp20 => ?_) (fun hp20 => ?_)
      · refine z_iconst 0 rfl rfl ?_
        exact hj4 _ (by rw [if_neg hp4, if_neg hp12, if_pos hp20])
      · refine z_aload_n rfl rfl ?_
        refine z_geti (ci := 5) 2 rfl h_k rfl w_122 ?_
        refine z_aload_n rfl rfl ?_
        refine z_geti (ci := 5) 4 rfl h_k rfl w_126 ?_
        refine z_iadd rfl ?_
        refine z_iload_n rfl rfl ?_
        refine z_icmp_gt rfl (fun hp33 => ?_) (fun hp33 => ?_)
        · refine z_iconst 0 rfl rfl ?_
          exact hj4 _ (by rw [if_neg hp4, if_neg hp12, if_neg hp20, if_pos hp33])
        · refine z_aload_n rfl rfl ?_
          refine z_geti (ci := 5) 3 rfl h_k rfl w_124 ?_
          refine z_aload_n rfl rfl ?_
          refine z_geti (ci := 5) 5 rfl h_k rfl w_128 ?_
          refine z_iadd rfl ?_
          refine z_iload rfl rfl ?_
          refine z_icmp_gt rfl (fun hp47 => ?_) (fun hp47 => ?_)
          · refine z_iconst 0 rfl rfl ?_
            exact hj4 _ (by rw [if_neg hp4, if_neg hp12, if_neg hp20, if_neg hp33, if_pos hp47])
          · refine z_iconst 1 rfl rfl ?_
            refine z_goto rfl ?_
            exact hj4 _ (by rw [if_neg hp4, if_neg hp12, if_neg hp20, if_neg hp33, if_neg hp47])
def cd_inside_L6 (post : Int32 → Mem → Prop)  : Nat → Mem → Int32 → Int32 → Int32 → Int32 → Int32 → Int32 → Int32 → Prop
  | 0, _, _, _, _, _, _, _, _ => False
  | n + 1, S, l1, l2, l3, l4, l5, l6, l7 =>
  (((S 87 2) ≤ l7) →
   post (-1) S) ∧
  ((¬ (S 87 2) ≤ l7) →
   (vp_in l7 12) ∧ (vp_in (S 113 l7.toNatClampNeg) 24) ∧ ci_liesIn (fun r1 S1 =>
    ((r1 = 0) →
     cd_inside_L6 post n S1 l1 l2 l3 l4 l5 l6 (l7 + 1)) ∧
    ((¬ r1 = 0) →
     ((¬ l6 = l5) →
      cd_inside_L6 post n S1 l1 l2 l3 l4 l5 (l6 + 1) (l7 + 1)) ∧
     ((l6 = l5) →
      post (S 113 l7.toNatClampNeg) S1))) S (89 + (S 113 l7.toNatClampNeg).toNatClampNeg) l1 l2 l3 l4)
set_option maxRecDepth 100000 in
set_option maxHeartbeats 1000000 in
theorem zcd_inside_L6 {g : Gm} {G : Gp} {post : Int32 → Mem → Prop} (hx : G.2.2.2 = false) (hG : isD G) : ∀ (n : Nat) {S : Mem} {l1 : Int32} {l2 : Int32} {l3 : Int32} {l4 : Int32} {l5 : Int32} {l6 : Int32} {l7 : Int32} , cd_inside_L6 post n S l1 l2 l3 l4 l5 l6 l7 → Z g M_d_inside 0 0 6 [some (.ref 0), some (.int l1), some (.int l2), some (.int l3), some (.int l4), some (.int l5), some (.int l6), some (.int l7), none] [] (S, G) (Qi G post noEx) := by
  intro n
  induction n with
  | zero =>
    intros
    rename_i hw
    exact hw.elim
  | succ n ih =>
    intro S l1 l2 l3 l4 l5 l6 l7 hw
    rw [cd_inside_L6] at hw
    refine z_iload rfl rfl ?_
    refine z_aload_n rfl rfl ?_
    refine z_getr (ci := 0) 3 rfl hG.1 rfl w_183 hG.2.2.2.2.2.2.2.1 ?_
    refine z_getr (ci := 4) 0 rfl hG.2.2.2.2.2.2.2.2.1.1 rfl w_168 hG.2.2.2.2.2.2.2.2.1.2.1 ?_
    refine z_geti (ci := 6) 2 rfl hG.2.2.2.2.2.2.2.2.1.2.2.1.1 rfl w_156 ?_
    refine z_icmp_ge rfl (fun hq => ?_) (fun hq => ?_)
    · replace hw := hw.1 hq
      refine z_iconst (-1) rfl rfl ?_
      exact z_iret rfl rfl rfl rfl (Or.inl ⟨_, _, rfl, rfl, hw⟩)
    · replace hw := hw.2 hq
      refine z_aload_n rfl rfl ?_
      refine z_getr (ci := 0) 3 rfl hG.1 rfl w_183 hG.2.2.2.2.2.2.2.1 ?_
      refine z_getr (ci := 4) 0 rfl hG.2.2.2.2.2.2.2.2.1.1 rfl w_168 hG.2.2.2.2.2.2.2.2.1.2.1 ?_
      refine z_getr (ci := 6) 1 rfl hG.2.2.2.2.2.2.2.2.1.2.2.1.1 rfl w_154 hG.2.2.2.2.2.2.2.2.1.2.2.1.2.2.2.1 ?_
      refine z_iload rfl rfl ?_
      obtain ⟨hc1, hw⟩ := hw
      refine z_iald (l7.toNatClampNeg) rfl hG.2.2.2.2.2.2.2.2.1.2.2.1.2.2.2.2.1 hc1 rfl ?_
      refine z_istore [some (.ref 0), some (.int l1), some (.int l2), some (.int l3), some (.int l4), some (.int l5), some (.int l6), some (.int l7), some (.int (S 113 l7.toNatClampNeg))] rfl rfl rfl ?_
      refine z_aload_n rfl rfl ?_
      refine z_getr (ci := 0) 3 rfl hG.1 rfl w_183 hG.2.2.2.2.2.2.2.1 ?_
      refine z_getr (ci := 4) 0 rfl hG.2.2.2.2.2.2.2.2.1.1 rfl w_168 hG.2.2.2.2.2.2.2.2.1.2.1 ?_
      refine z_getr (ci := 6) 0 rfl hG.2.2.2.2.2.2.2.2.1.2.2.1.1 rfl w_152 hG.2.2.2.2.2.2.2.2.1.2.2.1.2.1 ?_
      refine z_iload rfl rfl ?_
      obtain ⟨hc2, hw⟩ := hw
      refine z_aaldI rfl hG.2.2.2.2.2.2.2.2.1.2.2.1.2.2.1.1 hc2 (hG.2.2.2.2.2.2.2.2.1.2.2.1.2.2.1.2 _ (vlt hc2)).1 ?_
      refine z_iload_n rfl rfl ?_
      refine z_iload_n rfl rfl ?_
      refine z_iload_n rfl rfl ?_
      refine z_iload rfl rfl ?_
      refine z_cvi (M' := M_i_liesIn) [.int l1, .int l2, .int l3, .int l4] hx rfl w_234 cv_i_liesIn (hG.2.2.2.2.2.2.2.2.1.2.2.1.2.2.1.2 _ (vlt hc2)).2 (by decide) rfl rfl rfl rfl (zci_liesIn hx hG (hG.2.2.2.2.2.2.2.2.1.2.2.1.2.2.1.2 _ (vlt hc2)).2 hw) ?_ (fun _ _ hf => hf.elim)
      clear hw
      intro r1 S1 hw
      refine z_if_eq rfl (fun hq => ?_) (fun hq => ?_)
      · replace hw := hw.1 hq
        refine z_iinc 1 [some (.ref 0), some (.int l1), some (.int l2), some (.int l3), some (.int l4), some (.int l5), some (.int l6), some (.int (l7 + 1)), some (.int (S 113 l7.toNatClampNeg))] rfl rfl rfl rfl ?_
        refine z_goto rfl ?_
        refine Z.forget' [some (.ref 0), some (.int l1), some (.int l2), some (.int l3), some (.int l4), some (.int l5), some (.int l6), some (.int (l7 + 1)), none] ⟨rfl, ⟨rfl, ⟨rfl, ⟨rfl, ⟨rfl, ⟨rfl, ⟨rfl, ⟨rfl, trivial⟩⟩⟩⟩⟩⟩⟩⟩ ?_
        exact ih hw
      · replace hw := hw.2 hq
        refine z_iload rfl rfl ?_
        refine z_iload rfl rfl ?_
        refine z_icmp_ne rfl (fun hq => ?_) (fun hq => ?_)
        · replace hw := hw.1 hq
          refine z_iinc 1 [some (.ref 0), some (.int l1), some (.int l2), some (.int l3), some (.int l4), some (.int l5), some (.int (l6 + 1)), some (.int l7), some (.int (S 113 l7.toNatClampNeg))] rfl rfl rfl rfl ?_
          refine z_iinc 1 [some (.ref 0), some (.int l1), some (.int l2), some (.int l3), some (.int l4), some (.int l5), some (.int (l6 + 1)), some (.int (l7 + 1)), some (.int (S 113 l7.toNatClampNeg))] rfl rfl rfl rfl ?_
          refine z_goto rfl ?_
          refine Z.forget' [some (.ref 0), some (.int l1), some (.int l2), some (.int l3), some (.int l4), some (.int l5), some (.int (l6 + 1)), some (.int (l7 + 1)), none] ⟨rfl, ⟨rfl, ⟨rfl, ⟨rfl, ⟨rfl, ⟨rfl, ⟨rfl, ⟨rfl, trivial⟩⟩⟩⟩⟩⟩⟩⟩ ?_
          exact ih hw
        · replace hw := hw.2 hq
          refine z_iload rfl rfl ?_
          exact z_iret rfl rfl rfl rfl (Or.inl ⟨_, _, rfl, rfl, hw⟩)
def cd_inside (post : Int32 → Mem → Prop) (S : Mem) (l1 : Int32) (l2 : Int32) (l3 : Int32) (l4 : Int32) (l5 : Int32) : Prop :=
  ∃ n, cd_inside_L6 post n S l1 l2 l3 l4 l5 0 0
set_option maxRecDepth 100000 in
set_option maxHeartbeats 1000000 in
theorem zcd_inside {g : Gm} {G : Gp} {S : Mem} {post : Int32 → Mem → Prop} {l1 : Int32} {l2 : Int32} {l3 : Int32} {l4 : Int32} {l5 : Int32} (hx : G.2.2.2 = false) (hG : isD G) (hw : cd_inside post S l1 l2 l3 l4 l5) : Z g M_d_inside 0 0 0 (entryL [.ref 0, .int l1, .int l2, .int l3, .int l4, .int l5] (mL M_d_inside)) [] (S, G) (Qi G post noEx) := by
  unfold cd_inside at hw
  show Z g M_d_inside 0 0 0 [some (.ref 0), some (.int l1), some (.int l2), some (.int l3), some (.int l4), some (.int l5), none, none, none] [] (S, G) (Qi G post noEx)
  refine z_iconst 0 rfl rfl ?_
  refine z_istore [some (.ref 0), some (.int l1), some (.int l2), some (.int l3), some (.int l4), some (.int l5), some (.int 0), none, none] rfl rfl rfl ?_
  refine z_iconst 0 rfl rfl ?_
  refine z_istore [some (.ref 0), some (.int l1), some (.int l2), some (.int l3), some (.int l4), some (.int l5), some (.int 0), some (.int 0), none] rfl rfl rfl ?_
  refine Z.forget' [some (.ref 0), some (.int l1), some (.int l2), some (.int l3), some (.int l4), some (.int l5), some (.int 0), some (.int 0), none] ⟨rfl, ⟨rfl, ⟨rfl, ⟨rfl, ⟨rfl, ⟨rfl, ⟨rfl, ⟨rfl, trivial⟩⟩⟩⟩⟩⟩⟩⟩ ?_
  obtain ⟨n, hw⟩ := hw
  exact zcd_inside_L6 hx hG n hw
