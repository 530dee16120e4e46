def ca_sort (post : Int32 → Mem → Prop) (S : Mem) (k : Nat) (l1 : Int32) : Prop :=
  (((S k 0) < 0) →
   post 0 S) ∧
  ((¬ (S k 0) < 0) →
   ((9 < (S k 0)) →
    post 0 S) ∧
   ((¬ 9 < (S k 0)) →
    ((l1 < 0) →
     post 0 S) ∧
    ((¬ l1 < 0) →
     ((l1 < 4) →
      (vp_in (((S k 0) * 4) + l1) 40) ∧ post (sortsF (((S k 0) * 4) + l1).toNatClampNeg) S) ∧
     ((¬ l1 < 4) →
      post 0 S))))
set_option maxRecDepth 100000 in
set_option maxHeartbeats 1000000 in
theorem zca_sort {g : Gm} {G : Gp} {S : Mem} {post : Int32 → Mem → Prop} {k : Nat} {l1 : Int32} (hx : G.2.2.2 = false) (hG : isD G) (h_k : isA G k) (hw : ca_sort post S k l1) : Z g M_a_sort 0 0 0 (entryL [.ref k, .int l1] (mL M_a_sort)) [] (S, G) (Qi G post noEx) := by
  unfold ca_sort at hw
  show Z g M_a_sort 0 0 0 [some (.ref k), some (.int l1)] [] (S, G) (Qi G post noEx)
  refine z_aload_n rfl rfl ?_
  refine z_geti (ci := 1) 0 rfl h_k.1 rfl w_33 ?_
  refine z_if_lt rfl (fun hq => ?_) (fun hq => ?_)
  · replace hw := hw.1 hq
    refine z_iconst 0 rfl rfl ?_
    exact z_iret rfl rfl rfl rfl (Or.inl ⟨_, _, rfl, rfl, hw⟩)
  · replace hw := hw.2 hq
    refine z_aload_n rfl rfl ?_
    refine z_geti (ci := 1) 0 rfl h_k.1 rfl w_33 ?_
    refine z_bipush 9 rfl rfl ?_
    refine z_icmp_gt rfl (fun hq => ?_) (fun hq => ?_)
    · replace hw := hw.1 hq
      refine z_iconst 0 rfl rfl ?_
      exact z_iret rfl rfl rfl rfl (Or.inl ⟨_, _, rfl, rfl, hw⟩)
    · replace hw := hw.2 hq
      refine z_iload_n rfl rfl ?_
      refine z_if_lt rfl (fun hq => ?_) (fun hq => ?_)
      · replace hw := hw.1 hq
        refine z_iconst 0 rfl rfl ?_
        exact z_iret rfl rfl rfl rfl (Or.inl ⟨_, _, rfl, rfl, hw⟩)
      · replace hw := hw.2 hq
        refine z_iload_n rfl rfl ?_
        refine z_iconst 4 rfl rfl ?_
        refine z_icmp_lt rfl (fun hq => ?_) (fun hq => ?_)
        · replace hw := hw.1 hq
          refine z_getsT rfl w_255 ?_
          refine z_aload_n rfl rfl ?_
          refine z_geti (ci := 1) 0 rfl h_k.1 rfl w_33 ?_
          refine z_iconst 4 rfl rfl ?_
          refine z_imul rfl ?_
          refine z_iload_n rfl rfl ?_
          refine z_iadd rfl ?_
          obtain ⟨hc1, hw⟩ := hw
          refine z_ialdT rfl hc1 ?_
          exact z_iret rfl rfl rfl rfl (Or.inl ⟨_, _, rfl, rfl, hw⟩)
        · replace hw := hw.2 hq
          refine z_iconst 0 rfl rfl ?_
          exact z_iret rfl rfl rfl rfl (Or.inl ⟨_, _, rfl, rfl, hw⟩)
def ca_become (post : Mem → Prop) (S : Mem) (k : Nat) (l1 : Int32) (l2 : Int32) (l3 : Int32) (l4 : Int32) (l5 : Int32) : Prop :=
  ∀ S1, S1 = up2 S k 0 l1 → ∀ S2, S2 = up2 S1 k 1 0 → ca_sort (fun r1 S3 =>
   ∀ S4, S4 = up2 S3 (k + 1) 0 (if r1 = 0 then 0 else l2 : Int32) → ca_sort (fun r2 S5 =>
    ∀ S6, S6 = up2 S5 (k + 1) 1 (if r2 = 0 then 0 else l3 : Int32) → ca_sort (fun r3 S7 =>
     ∀ S8, S8 = up2 S7 (k + 1) 2 (if r3 = 0 then 0 else l4 : Int32) → ca_sort (fun r4 S9 =>
      ∀ S10, S10 = up2 S9 (k + 1) 3 (if r4 = 0 then 0 else l5 : Int32) → post S10) S8 k 3) S6 k 2) S4 k 1) S2 k 0
set_option maxRecDepth 100000 in
set_option maxHeartbeats 1000000 in
theorem zca_become {g : Gm} {G : Gp} {S : Mem} {post : Mem → Prop} {k : Nat} {l1 : Int32} {l2 : Int32} {l3 : Int32} {l4 : Int32} {l5 : Int32} (hx : G.2.2.2 = false) (hG : isD G) (h_k : isA G k) (hw : ca_become post S k l1 l2 l3 l4 l5) : Z g M_a_become 0 0 0 (entryL [.ref k, .int l1, .int l2, .int l3, .int l4, .int l5] (mL M_a_become)) [] (S, G) (Qv G post noEx) := by
  unfold ca_become at hw
  show Z g M_a_become 0 0 0 [some (.ref k), some (.int l1), some (.int l2), some (.int l3), some (.int l4), some (.int l5)] [] (S, G) (Qv G post noEx)
  refine z_aload_n rfl rfl ?_
  refine z_iload_n rfl rfl ?_
  replace hw := hw _ rfl
  refine z_puti (ci := 1) 0 rfl h_k.1 rfl w_33 rfl rfl rfl ?_
  refine z_aload_n rfl rfl ?_
  refine z_iconst 0 rfl rfl ?_
  replace hw := hw _ rfl
  refine z_puti (ci := 1) 1 rfl h_k.1 rfl w_36 rfl (by decide) rfl ?_
  refine z_aload_n rfl rfl ?_
  refine z_getr (ci := 1) 2 rfl h_k.1 rfl w_39 h_k.2.1 ?_
  refine z_iconst 0 rfl rfl ?_
  refine z_aload_n rfl rfl ?_
  refine z_iconst 0 rfl rfl ?_
  refine z_cvi (M' := M_a_sort) [.int 0] hx rfl w_251 cv_a_sort h_k.1 (by decide) rfl rfl rfl rfl (zca_sort hx hG h_k hw) ?_ (fun _ _ hf => hf.elim)
  clear hw
  intro r1 S3 hw
  have hj20 : ∀ v : Int32, v = (if r1 = 0 then 0 else l2 : Int32) → Z g M_a_become 0 0 28 [some (.ref k), some (.int l1), some (.int l2), some (.int l3), some (.int l4), some (.int l5)] [.int v, .int 0, .ref (k + 1)] (S3, G) (Qv G post noEx) := by
    intro v hv
    subst hv
    replace hw := hw _ rfl
    refine z_iast (0) rfl h_k.2.2 (vp_lit rfl) rfl ?_
    refine z_aload_n rfl rfl ?_
    refine z_getr (ci := 1) 2 rfl h_k.1 rfl w_39 h_k.2.1 ?_
    refine z_iconst 1 rfl rfl ?_
    refine z_aload_n rfl rfl ?_
    refine z_iconst 1 rfl rfl ?_
    refine z_cvi (M' := M_a_sort) [.int 1] hx rfl w_251 cv_a_sort h_k.1 (by decide) rfl rfl rfl rfl (zca_sort hx hG h_k hw) ?_ (fun _ _ hf => hf.elim)
    clear hw
    intro r2 S5 hw
    have hj39 : ∀ v : Int32, v = (if r2 = 0 then 0 else l3 : Int32) → Z g M_a_become 0 0 47 [some (.ref k), some (.int l1), some (.int l2), some (.int l3), some (.int l4), some (.int l5)] [.int v, .int 1, .ref (k + 1)] (S5, G) (Qv G post noEx) := by
      intro v hv
      subst hv
      replace hw := hw _ rfl
      refine z_iast (1) rfl h_k.2.2 (vp_lit rfl) rfl ?_
      refine z_aload_n rfl rfl ?_
      refine z_getr (ci := 1) 2 rfl h_k.1 rfl w_39 h_k.2.1 ?_
      refine z_iconst 2 rfl rfl ?_
      refine z_aload_n rfl rfl ?_
      refine z_iconst 2 rfl rfl ?_
      refine z_cvi (M' := M_a_sort) [.int 2] hx rfl w_251 cv_a_sort h_k.1 (by decide) rfl rfl rfl rfl (zca_sort hx hG h_k hw) ?_ (fun _ _ hf => hf.elim)
      clear hw
      intro r3 S7 hw
      have hj58 : ∀ v : Int32, v = (if r3 = 0 then 0 else l4 : Int32) → Z g M_a_become 0 0 67 [some (.ref k), some (.int l1), some (.int l2), some (.int l3), some (.int l4), some (.int l5)] [.int v, .int 2, .ref (k + 1)] (S7, G) (Qv G post noEx) := by
        intro v hv
        subst hv
        replace hw := hw _ rfl
        refine z_iast (2) rfl h_k.2.2 (vp_lit rfl) rfl ?_
        refine z_aload_n rfl rfl ?_
        refine z_getr (ci := 1) 2 rfl h_k.1 rfl w_39 h_k.2.1 ?_
        refine z_iconst 3 rfl rfl ?_
        refine z_aload_n rfl rfl ?_
        refine z_iconst 3 rfl rfl ?_
        refine z_cvi (M' := M_a_sort) [.int 3] hx rfl w_251 cv_a_sort h_k.1 (by decide) rfl rfl rfl rfl (zca_sort hx hG h_k hw) ?_ (fun _ _ hf => hf.elim)
        clear hw
        intro r4 S9 hw
        have hj78 : ∀ v : Int32, v = (if r4 = 0 then 0 else l5 : Int32) → Z g M_a_become 0 0 87 [some (.ref k), some (.int l1), some (.int l2), some (.int l3), some (.int l4), some (.int l5)] [.int v, .int 3, .ref (k + 1)] (S9, G) (Qv G post noEx) := by
          intro v hv
          subst hv
          replace hw := hw _ rfl
          refine z_iast (3) rfl h_k.2.2 (vp_lit rfl) rfl ?_
          exact z_vret rfl rfl rfl rfl (Or.inl ⟨_, rfl, rfl, hw⟩)
        refine z_if_ne rfl (fun hp78 => ?_) (fun hp78 => ?_)
        · refine z_iload rfl rfl ?_
          exact hj78 _ (by rw [if_neg hp78])
        · refine z_iconst 0 rfl rfl ?_
          refine z_goto rfl ?_
          exact hj78 _ (by rw [if_pos hp78])
      refine z_if_ne rfl (fun hp58 => ?_) (fun hp58 => ?_)
      · refine z_iload rfl rfl ?_
        exact hj58 _ (by rw [if_neg hp58])
      · refine z_iconst 0 rfl rfl ?_
        refine z_goto rfl ?_
        exact hj58 _ (by rw [if_pos hp58])
    refine z_if_ne rfl (fun hp39 => ?_) (fun hp39 => ?_)
    · refine z_iload_n rfl rfl ?_
      exact hj39 _ (by rw [if_neg hp39])
    · refine z_iconst 0 rfl rfl ?_
      refine z_goto rfl ?_
      exact hj39 _ (by rw [if_pos hp39])
  refine z_if_ne rfl (fun hp20 => ?_) (fun hp20 => ?_)
  · refine z_iload_n rfl rfl ?_
    exact hj20 _ (by rw [if_neg hp20])
  · refine z_iconst 0 rfl rfl ?_
    refine z_goto rfl ?_
    exact hj20 _ (by rw [if_pos hp20])
def ca_isWithin (post : Int32 → Mem → Prop) (S : Mem) (l0 : Int32) (l1 : Int32) (l2 : Int32) : Prop :=
  vp_nar .boolean (if l0 < l1 then 0 else (if l2 < l0 then 0 else 1 : Int32) : Int32) = (if l0 < l1 then 0 else (if l2 < l0 then 0 else 1 : Int32) : Int32) ∧ post (if l0 < l1 then 0 else (if l2 < l0 then 0 else 1 : Int32) : Int32) S
set_option maxRecDepth 100000 in
set_option maxHeartbeats 1000000 in
theorem zca_isWithin {g : Gm} {G : Gp} {S : Mem} {post : Int32 → Mem → Prop} {l0 : Int32} {l1 : Int32} {l2 : Int32} (hx : G.2.2.2 = false) (hG : isD G) (hw : ca_isWithin post S l0 l1 l2) : Z g M_a_isWithin 0 0 0 (entryL [.int l0, .int l1, .int l2] (mL M_a_isWithin)) [] (S, G) (Qi G post noEx) := by
  unfold ca_isWithin at hw
  show Z g M_a_isWithin 0 0 0 [some (.int l0), some (.int l1), some (.int l2)] [] (S, G) (Qi G post noEx)
  refine z_iload_n rfl rfl ?_
  refine z_iload_n rfl rfl ?_
  have hj2 : ∀ v : Int32, v = (if l0 < l1 then 0 else (if l2 < l0 then 0 else 1 : Int32) : Int32) → Z g M_a_isWithin 0 0 15 [some (.int l0), some (.int l1), some (.int l2)] [.int v] (S, G) (Qi G post noEx) := by
    intro v hv
    subst hv
    obtain ⟨hc1, hw⟩ := hw
    exact z_zret rfl rfl (nar_of hc1) rfl rfl (Or.inl ⟨_, _, rfl, rfl, hw⟩)
  refine z_icmp_gt rfl (fun hp2 => ?_) (fun hp2 => ?_)
  · refine z_iconst 0 rfl rfl ?_
    exact hj2 _ (by rw [if_pos hp2])
  · refine z_iload_n rfl rfl ?_
    refine z_iload_n rfl rfl ?_
    refine z_icmp_gt rfl (fun hp7 => ?_) (fun hp7 => ?_)
    · refine z_iconst 0 rfl rfl ?_
      exact hj2 _ (by rw [if_neg hp2, if_pos hp7])
    · refine z_iconst 1 rfl rfl ?_
      refine z_goto rfl ?_
      exact hj2 _ (by rw [if_neg hp2, if_neg hp7])
def ca_widthOf (post : Int32 → Mem → Prop) (S : Mem) (l0 : Int32) : Prop :=
  post (l0 - l0 / 128 * 128) S
set_option maxRecDepth 100000 in
set_option maxHeartbeats 1000000 in
theorem zca_widthOf {g : Gm} {G : Gp} {S : Mem} {post : Int32 → Mem → Prop} {l0 : Int32} (hx : G.2.2.2 = false) (hG : isD G) (hw : ca_widthOf post S l0) : Z g M_a_widthOf 0 0 0 (entryL [.int l0] (mL M_a_widthOf)) [] (S, G) (Qi G post noEx) := by
  unfold ca_widthOf at hw
  show Z g M_a_widthOf 0 0 0 [some (.int l0)] [] (S, G) (Qi G post noEx)
  refine z_iload_n rfl rfl ?_
  refine z_sipush 128 rfl rfl ?_
  refine z_irem rfl (by decide) ?_
  exact z_iret rfl rfl rfl rfl (Or.inl ⟨_, _, rfl, rfl, hw⟩)
def ca_heightOf (post : Int32 → Mem → Prop) (S : Mem) (l0 : Int32) : Prop :=
  post (l0 / 128) S
set_option maxRecDepth 100000 in
set_option maxHeartbeats 1000000 in
theorem zca_heightOf {g : Gm} {G : Gp} {S : Mem} {post : Int32 → Mem → Prop} {l0 : Int32} (hx : G.2.2.2 = false) (hG : isD G) (hw : ca_heightOf post S l0) : Z g M_a_heightOf 0 0 0 (entryL [.int l0] (mL M_a_heightOf)) [] (S, G) (Qi G post noEx) := by
  unfold ca_heightOf at hw
  show Z g M_a_heightOf 0 0 0 [some (.int l0)] [] (S, G) (Qi G post noEx)
  refine z_iload_n rfl rfl ?_
  refine z_sipush 128 rfl rfl ?_
  refine z_idiv rfl (by decide) ?_
  exact z_iret rfl rfl rfl rfl (Or.inl ⟨_, _, rfl, rfl, hw⟩)
def ca_takes (post : Int32 → Mem → Prop) (S : Mem) (k : Nat) (l1 : Int32) (l2 : Int32) : Prop :=
  ca_sort (fun r1 S1 =>
   (r1 = 1 → ca_isWithin (fun r2 S2 =>
     vp_nar .boolean r2 = r2 ∧ post r2 S2) S1 l2 0 23) ∧
   (r1 = 2 → ca_isWithin (fun r3 S3 =>
     vp_nar .boolean r3 = r3 ∧ post r3 S3) S1 l2 0 2) ∧
   (r1 = 3 → ca_isWithin (fun r4 S4 =>
     vp_nar .boolean r4 = r4 ∧ post r4 S4) S1 l2 (-200) 200) ∧
   (r1 = 4 → 
    ca_isWithin (fun r5 S5 =>
     ((r5 = 0) →
      post 0 S5) ∧
     ((¬ r5 = 0) →
      
      ca_isWithin (fun r6 S6 =>
       ((r6 = 0) →
        post 0 S6) ∧
       ((¬ r6 = 0) →
        post 1 S6)) S5 (l2 / 128) 1 100)) S1 (l2 - l2 / 128 * 128) 1 100) ∧
   (r1 = 5 → ca_isWithin (fun r7 S7 =>
     vp_nar .boolean r7 = r7 ∧ post r7 S7) S1 l2 1 9) ∧
   (r1 = 6 → ca_isWithin (fun r8 S8 =>
     vp_nar .boolean r8 = r8 ∧ post r8 S8) S1 l2 0 7) ∧
   (r1 = 7 → ca_isWithin (fun r9 S9 =>
     vp_nar .boolean r9 = r9 ∧ post r9 S9) S1 l2 0 1) ∧
   (r1 = 8 → ca_isWithin (fun r10 S10 =>
     vp_nar .boolean r10 = r10 ∧ post r10 S10) S1 l2 0 3) ∧
   ((r1.toInt < 1 ∨ 8 < r1.toInt) → post 0 S1)) S k l1
set_option maxRecDepth 100000 in
set_option maxHeartbeats 1000000 in
theorem zca_takes {g : Gm} {G : Gp} {S : Mem} {post : Int32 → Mem → Prop} {k : Nat} {l1 : Int32} {l2 : Int32} (hx : G.2.2.2 = false) (hG : isD G) (h_k : isA G k) (hw : ca_takes post S k l1 l2) : Z g M_a_takes 0 0 0 (entryL [.ref k, .int l1, .int l2] (mL M_a_takes)) [] (S, G) (Qi G post noEx) := by
  unfold ca_takes at hw
  show Z g M_a_takes 0 0 0 [some (.ref k), some (.int l1), some (.int l2)] [] (S, G) (Qi G post noEx)
  refine z_aload_n rfl rfl ?_
  refine z_iload_n rfl rfl ?_
  refine z_cvi (M' := M_a_sort) [.int l1] hx rfl w_251 cv_a_sort h_k.1 (by decide) rfl rfl rfl rfl (zca_sort hx hG h_k hw) ?_ (fun _ _ hf => hf.elim)
  clear hw
  intro r1 S1 hw
  by_cases hr : r1.toInt < 1 ∨ 8 < r1.toInt
  · refine z_switch 140 rfl (sw_out hr rfl) ?_
    replace hw := hw.2.2.2.2.2.2.2.2 hr
    refine z_iconst 0 rfl rfl ?_
    exact z_zret rfl rfl (by decide) rfl rfl (Or.inl ⟨_, _, rfl, rfl, hw⟩)
  · rcases sw_1_8 hr with hq | hq | hq | hq | hq | hq | hq | hq
    · replace hw := hw.1 hq
      refine z_switch 52 rfl (sw_eq hq rfl) ?_
      refine z_iload_n rfl rfl ?_
      refine z_iconst 0 rfl rfl ?_
      refine z_bipush 23 rfl rfl ?_
      refine z_csi (M' := M_a_isWithin) [.int l2, .int 0, .int 23] hx rfl w_265 cs_a_isWithin rfl rfl rfl (zca_isWithin hx hG hw) ?_ (fun _ _ hf => hf.elim)
      clear hw
      intro r2 S2 hw
      obtain ⟨hc1, hw⟩ := hw
      exact z_zret rfl rfl (nar_of hc1) rfl rfl (Or.inl ⟨_, _, rfl, rfl, hw⟩)
    · replace hw := hw.2.1 hq
      refine z_switch 60 rfl (sw_eq hq rfl) ?_
      refine z_iload_n rfl rfl ?_
      refine z_iconst 0 rfl rfl ?_
      refine z_iconst 2 rfl rfl ?_
      refine z_csi (M' := M_a_isWithin) [.int l2, .int 0, .int 2] hx rfl w_265 cs_a_isWithin rfl rfl rfl (zca_isWithin hx hG hw) ?_ (fun _ _ hf => hf.elim)
      clear hw
      intro r3 S3 hw
      obtain ⟨hc2, hw⟩ := hw
      exact z_zret rfl rfl (nar_of hc2) rfl rfl (Or.inl ⟨_, _, rfl, rfl, hw⟩)
    · replace hw := hw.2.2.1 hq
      refine z_switch 67 rfl (sw_eq hq rfl) ?_
      refine z_iload_n rfl rfl ?_
      refine z_sipush (-200) rfl rfl ?_
      refine z_sipush 200 rfl rfl ?_
      refine z_csi (M' := M_a_isWithin) [.int l2, .int (-200), .int 200] hx rfl w_265 cs_a_isWithin rfl rfl rfl (zca_isWithin hx hG hw) ?_ (fun _ _ hf => hf.elim)
      clear hw
      intro r4 S4 hw
      obtain ⟨hc3, hw⟩ := hw
      exact z_zret rfl rfl (nar_of hc3) rfl rfl (Or.inl ⟨_, _, rfl, rfl, hw⟩)
    · replace hw := hw.2.2.2.1 hq
      refine z_switch 78 rfl (sw_eq hq rfl) ?_
      refine z_iload_n rfl rfl ?_
      refine z_csi (M' := M_a_widthOf) (post := fun v S' => (l2 - l2 / 128 * 128) = v ∧ S1 = S') [.int l2] hx rfl w_268 cs_a_widthOf rfl rfl rfl (zca_widthOf hx hG (⟨rfl, rfl⟩)) ?_ (fun _ _ hf => hf.elim)
      rintro v S' ⟨rfl, rfl⟩
      refine z_iconst 1 rfl rfl ?_
      refine z_bipush 100 rfl rfl ?_
      refine z_csi (M' := M_a_isWithin) [.int (l2 - l2 / 128 * 128), .int 1, .int 100] hx rfl w_265 cs_a_isWithin rfl rfl rfl (zca_isWithin hx hG hw) ?_ (fun _ _ hf => hf.elim)
      clear hw
      intro r5 S5 hw
      refine z_if_eq rfl (fun hq => ?_) (fun hq => ?_)
      · replace hw := hw.1 hq
        refine z_iconst 0 rfl rfl ?_
        exact z_zret rfl rfl (by decide) rfl rfl (Or.inl ⟨_, _, rfl, rfl, hw⟩)
      · replace hw := hw.2 hq
        refine z_iload_n rfl rfl ?_
        refine z_csi (M' := M_a_heightOf) (post := fun v S' => (l2 / 128) = v ∧ S5 = S') [.int l2] hx rfl w_271 cs_a_heightOf rfl rfl rfl (zca_heightOf hx hG (⟨rfl, rfl⟩)) ?_ (fun _ _ hf => hf.elim)
        rintro v S' ⟨rfl, rfl⟩
        refine z_iconst 1 rfl rfl ?_
        refine z_bipush 100 rfl rfl ?_
        refine z_csi (M' := M_a_isWithin) [.int (l2 / 128), .int 1, .int 100] hx rfl w_265 cs_a_isWithin rfl rfl rfl (zca_isWithin hx hG hw) ?_ (fun _ _ hf => hf.elim)
        clear hw
        intro r6 S6 hw
        refine z_if_eq rfl (fun hq => ?_) (fun hq => ?_)
        · replace hw := hw.1 hq
          refine z_iconst 0 rfl rfl ?_
          exact z_zret rfl rfl (by decide) rfl rfl (Or.inl ⟨_, _, rfl, rfl, hw⟩)
        · replace hw := hw.2 hq
          refine z_iconst 1 rfl rfl ?_
          refine z_goto rfl ?_
          exact z_zret rfl rfl (by decide) rfl rfl (Or.inl ⟨_, _, rfl, rfl, hw⟩)
    · replace hw := hw.2.2.2.2.1 hq
      refine z_switch 110 rfl (sw_eq hq rfl) ?_
      refine z_iload_n rfl rfl ?_
      refine z_iconst 1 rfl rfl ?_
      refine z_bipush 9 rfl rfl ?_
      refine z_csi (M' := M_a_isWithin) [.int l2, .int 1, .int 9] hx rfl w_265 cs_a_isWithin rfl rfl rfl (zca_isWithin hx hG hw) ?_ (fun _ _ hf => hf.elim)
      clear hw
      intro r7 S7 hw
      obtain ⟨hc4, hw⟩ := hw
      exact z_zret rfl rfl (nar_of hc4) rfl rfl (Or.inl ⟨_, _, rfl, rfl, hw⟩)
    · replace hw := hw.2.2.2.2.2.1 hq
      refine z_switch 118 rfl (sw_eq hq rfl) ?_
      refine z_iload_n rfl rfl ?_
      refine z_iconst 0 rfl rfl ?_
      refine z_bipush 7 rfl rfl ?_
      refine z_csi (M' := M_a_isWithin) [.int l2, .int 0, .int 7] hx rfl w_265 cs_a_isWithin rfl rfl rfl (zca_isWithin hx hG hw) ?_ (fun _ _ hf => hf.elim)
      clear hw
      intro r8 S8 hw
      obtain ⟨hc5, hw⟩ := hw
      exact z_zret rfl rfl (nar_of hc5) rfl rfl (Or.inl ⟨_, _, rfl, rfl, hw⟩)
    · replace hw := hw.2.2.2.2.2.2.1 hq
      refine z_switch 126 rfl (sw_eq hq rfl) ?_
      refine z_iload_n rfl rfl ?_
      refine z_iconst 0 rfl rfl ?_
      refine z_iconst 1 rfl rfl ?_
      refine z_csi (M' := M_a_isWithin) [.int l2, .int 0, .int 1] hx rfl w_265 cs_a_isWithin rfl rfl rfl (zca_isWithin hx hG hw) ?_ (fun _ _ hf => hf.elim)
      clear hw
      intro r9 S9 hw
      obtain ⟨hc6, hw⟩ := hw
      exact z_zret rfl rfl (nar_of hc6) rfl rfl (Or.inl ⟨_, _, rfl, rfl, hw⟩)
    · replace hw := hw.2.2.2.2.2.2.2.1 hq
      refine z_switch 133 rfl (sw_eq hq rfl) ?_
      refine z_iload_n rfl rfl ?_
      refine z_iconst 0 rfl rfl ?_
      refine z_iconst 3 rfl rfl ?_
      refine z_csi (M' := M_a_isWithin) [.int l2, .int 0, .int 3] hx rfl w_265 cs_a_isWithin rfl rfl rfl (zca_isWithin hx hG hw) ?_ (fun _ _ hf => hf.elim)
      clear hw
      intro r10 S10 hw
      obtain ⟨hc7, hw⟩ := hw
      exact z_zret rfl rfl (nar_of hc7) rfl rfl (Or.inl ⟨_, _, rfl, rfl, hw⟩)
def ca_isValid_L20 (post : Int32 → Mem → Prop)  : Nat → Mem → Nat → Int32 → Prop
  | 0, _, _, _ => False
  | n + 1, S, k, l1 =>
  ((4 ≤ l1) →
   post 1 S) ∧
  ((¬ 4 ≤ l1) →
   ca_sort (fun r1 S1 =>
    ((r1 = 0) →
     ca_isValid_L20 post n S1 k (l1 + 1)) ∧
    ((¬ r1 = 0) →
     (vp_in l1 4) ∧ ca_takes (fun r2 S2 =>
      ((¬ r2 = 0) →
       ca_isValid_L20 post n S2 k (l1 + 1)) ∧
      ((r2 = 0) →
       post 0 S2)) S1 k l1 (S1 (k + 1) l1.toNatClampNeg))) S k l1)
set_option maxRecDepth 100000 in
set_option maxHeartbeats 1000000 in
theorem zca_isValid_L20 {g : Gm} {G : Gp} {post : Int32 → Mem → Prop} (hx : G.2.2.2 = false) (hG : isD G) : ∀ (n : Nat) {S : Mem} {k : Nat} {l1 : Int32}  (h_k : isA G k), ca_isValid_L20 post n S k l1 → Z g M_a_isValid 0 0 20 [some (.ref k), some (.int l1)] [] (S, G) (Qi G post noEx) := by
  intro n
  induction n with
  | zero =>
    intros
    rename_i hw
    exact hw.elim
  | succ n ih =>
    intro S k l1 h_k hw
    rw [ca_isValid_L20] at hw
    refine z_iload_n rfl rfl ?_
    refine z_iconst 4 rfl rfl ?_
    refine z_icmp_ge rfl (fun hq => ?_) (fun hq => ?_)
    · replace hw := hw.1 hq
      refine z_iconst 1 rfl rfl ?_
      exact z_zret rfl rfl (by decide) rfl rfl (Or.inl ⟨_, _, rfl, rfl, hw⟩)
    · replace hw := hw.2 hq
      refine z_aload_n rfl rfl ?_
      refine z_iload_n rfl rfl ?_
      refine z_cvi (M' := M_a_sort) [.int l1] hx rfl w_251 cv_a_sort h_k.1 (by decide) rfl rfl rfl rfl (zca_sort hx hG h_k hw) ?_ (fun _ _ hf => hf.elim)
      clear hw
      intro r1 S1 hw
      refine z_if_eq rfl (fun hq => ?_) (fun hq => ?_)
      · replace hw := hw.1 hq
        refine z_iinc 1 [some (.ref k), some (.int (l1 + 1))] rfl rfl rfl rfl ?_
        refine z_goto rfl ?_
        refine Z.forget' [some (.ref k), some (.int (l1 + 1))] ⟨rfl, ⟨rfl, trivial⟩⟩ ?_
        exact ih h_k hw
      · replace hw := hw.2 hq
        refine z_aload_n rfl rfl ?_
        refine z_iload_n rfl rfl ?_
        refine z_aload_n rfl rfl ?_
        refine z_getr (ci := 1) 2 rfl h_k.1 rfl w_39 h_k.2.1 ?_
        refine z_iload_n rfl rfl ?_
        obtain ⟨hc1, hw⟩ := hw
        refine z_iald (l1.toNatClampNeg) rfl h_k.2.2 hc1 rfl ?_
        refine z_cvi (M' := M_a_takes) [.int l1, .int (S1 (k + 1) l1.toNatClampNeg)] hx rfl w_261 cv_a_takes h_k.1 (by decide) rfl rfl rfl rfl (zca_takes hx hG h_k hw) ?_ (fun _ _ hf => hf.elim)
        clear hw
        intro r2 S2 hw
        refine z_if_ne rfl (fun hq => ?_) (fun hq => ?_)
        · replace hw := hw.1 hq
          refine z_iinc 1 [some (.ref k), some (.int (l1 + 1))] rfl rfl rfl rfl ?_
          refine z_goto rfl ?_
          refine Z.forget' [some (.ref k), some (.int (l1 + 1))] ⟨rfl, ⟨rfl, trivial⟩⟩ ?_
          exact ih h_k hw
        · replace hw := hw.2 hq
          refine z_iconst 0 rfl rfl ?_
          exact z_zret rfl rfl (by decide) rfl rfl (Or.inl ⟨_, _, rfl, rfl, hw⟩)
def ca_isValid (post : Int32 → Mem → Prop) (S : Mem) (k : Nat) : Prop :=
  (((S k 0) < 0) →
   post 0 S) ∧
  ((¬ (S k 0) < 0) →
   (((S k 0) ≤ 9) →
    ∃ n, ca_isValid_L20 post n S k 0) ∧
   ((¬ (S k 0) ≤ 9) →
    post 0 S))
set_option maxRecDepth 100000 in
set_option maxHeartbeats 1000000 in
theorem zca_isValid {g : Gm} {G : Gp} {S : Mem} {post : Int32 → Mem → Prop} {k : Nat} (hx : G.2.2.2 = false) (hG : isD G) (h_k : isA G k) (hw : ca_isValid post S k) : Z g M_a_isValid 0 0 0 (entryL [.ref k] (mL M_a_isValid)) [] (S, G) (Qi G post noEx) := by
  unfold ca_isValid at hw
  show Z g M_a_isValid 0 0 0 [some (.ref k), none] [] (S, G) (Qi G post noEx)
  refine z_aload_n rfl rfl ?_
  refine z_geti (ci := 1) 0 rfl h_k.1 rfl w_33 ?_
  refine z_if_lt rfl (fun hq => ?_) (fun hq => ?_)
  · replace hw := hw.1 hq
    refine z_iconst 0 rfl rfl ?_
    exact z_zret rfl rfl (by decide) rfl rfl (Or.inl ⟨_, _, rfl, rfl, hw⟩)
  · replace hw := hw.2 hq
    refine z_aload_n rfl rfl ?_
    refine z_geti (ci := 1) 0 rfl h_k.1 rfl w_33 ?_
    refine z_bipush 9 rfl rfl ?_
    refine z_icmp_le rfl (fun hq => ?_) (fun hq => ?_)
    · replace hw := hw.1 hq
      refine z_iconst 0 rfl rfl ?_
      refine z_istore_n [some (.ref k), some (.int 0)] rfl rfl rfl ?_
      refine Z.forget' [some (.ref k), some (.int 0)] ⟨rfl, ⟨rfl, trivial⟩⟩ ?_
      obtain ⟨n, hw⟩ := hw
      exact zca_isValid_L20 hx hG n h_k hw
    · replace hw := hw.2 hq
      refine z_iconst 0 rfl rfl ?_
      exact z_zret rfl rfl (by decide) rfl rfl (Or.inl ⟨_, _, rfl, rfl, hw⟩)
def ci_keepsLimits (post : Int32 → Mem → Prop) (S : Mem) (l0 : Int32) (l1 : Int32) (l2 : Int32) (l3 : Int32) : Prop :=
  vp_nar .boolean (if l0 < (-200) then 0 else (if l1 < (-200) then 0 else (if 200 < (l0 + l2) then 0 else (if 200 < (l1 + l3) then 0 else 1 : Int32) : Int32) : Int32) : Int32) = (if l0 < (-200) then 0 else (if l1 < (-200) then 0 else (if 200 < (l0 + l2) then 0 else (if 200 < (l1 + l3) then 0 else 1 : Int32) : Int32) : Int32) : Int32) ∧ post (if l0 < (-200) then 0 else (if l1 < (-200) then 0 else (if 200 < (l0 + l2) then 0 else (if 200 < (l1 + l3) then 0 else 1 : Int32) : Int32) : Int32) : Int32) S
set_option maxRecDepth 100000 in
set_option maxHeartbeats 1000000 in
theorem zci_keepsLimits {g : Gm} {G : Gp} {S : Mem} {post : Int32 → Mem → Prop} {l0 : Int32} {l1 : Int32} {l2 : Int32} {l3 : Int32} (hx : G.2.2.2 = false) (hG : isD G) (hw : ci_keepsLimits post S l0 l1 l2 l3) : Z g M_i_keepsLimits 0 0 0 (entryL [.int l0, .int l1, .int l2, .int l3] (mL M_i_keepsLimits)) [] (S, G) (Qi G post noEx) := by
  unfold ci_keepsLimits at hw
  show Z g M_i_keepsLimits 0 0 0 [some (.int l0), some (.int l1), some (.int l2), some (.int l3)] [] (S, G) (Qi G post noEx)
  refine z_iload_n rfl rfl ?_
  refine z_sipush (-200) rfl rfl ?_
  have hj4 : ∀ v : Int32, v = (if l0 < (-200) then 0 else (if l1 < (-200) then 0 else (if 200 < (l0 + l2) then 0 else (if 200 < (l1 + l3) then 0 else 1 : Int32) : Int32) : Int32) : Int32) → Z g M_i_keepsLimits 0 0 37 [some (.int l0), some (.int l1), some (.int l2), some (.int l3)] [.int v] (S, G) (Qi G post noEx) := by
    intro v hv
    subst hv
    obtain ⟨hc1, hw⟩ := hw
    exact z_zret rfl rfl (nar_of hc1) rfl rfl (Or.inl ⟨_, _, rfl, rfl, hw⟩)
  refine z_icmp_lt rfl (fun hp4 => ?_) (fun hp4 => ?_)
  · refine z_iconst 0 rfl rfl ?_
    exact hj4 _ (by rw [if_pos hp4])
  · refine z_iload_n rfl rfl ?_
    refine z_sipush (-200) rfl rfl ?_
    refine z_icmp_lt rfl (fun hp11 => ?_) (fun hp11 => ?_)
    · refine z_iconst 0 rfl rfl ?_
      exact hj4 _ (by rw [if_neg hp4, if_pos hp11])
    · refine z_iload_n rfl rfl ?_
      refine z_iload_n rfl rfl ?_
      refine z_iadd rfl ?_
      refine z_sipush 200 rfl rfl ?_
      refine z_icmp_gt rfl (fun hp20 => ?_) (fun hp20 => ?_)
      · refine z_iconst 0 rfl rfl ?_
        exact hj4 _ (by rw [if_neg hp4, if_neg hp11, if_pos hp20])
      · refine z_iload_n rfl rfl ?_
        refine z_iload_n rfl rfl ?_
        refine z_iadd rfl ?_
        refine z_sipush 200 rfl rfl ?_
        refine z_icmp_gt rfl (fun hp29 => ?_) (fun hp29 => ?_)
        · refine z_iconst 0 rfl rfl ?_
          exact hj4 _ (by rw [if_neg hp4, if_neg hp11, if_neg hp20, if_pos hp29])
        · refine z_iconst 1 rfl rfl ?_
          refine z_goto rfl ?_
          exact hj4 _ (by rw [if_neg hp4, if_neg hp11, if_neg hp20, if_neg hp29])
def ci_becomeShape (post : Mem → Prop) (S : Mem) (k : Nat) (l1 : Int32) (l2 : Int32) (l3 : Int32) : Prop :=
  ∀ S1, S1 = up2 S k 0 1 → ∀ S2, S2 = up2 S1 k 1 l1 → ∀ S3, S3 = up2 S2 k 6 l2 → ∀ S4, S4 = up2 S3 k 7 l3 → post S4
set_option maxRecDepth 100000 in
set_option maxHeartbeats 1000000 in
theorem zci_becomeShape {g : Gm} {G : Gp} {S : Mem} {post : Mem → Prop} {k : Nat} {l1 : Int32} {l2 : Int32} {l3 : Int32} (hx : G.2.2.2 = false) (hG : isD G) (h_k : isI G k) (hw : ci_becomeShape post S k l1 l2 l3) : Z g M_i_becomeShape 0 0 0 (entryL [.ref k, .int l1, .int l2, .int l3] (mL M_i_becomeShape)) [] (S, G) (Qv G post noEx) := by
  unfold ci_becomeShape at hw
  show Z g M_i_becomeShape 0 0 0 [some (.ref k), some (.int l1), some (.int l2), some (.int l3)] [] (S, G) (Qv G post noEx)
  refine z_aload_n rfl rfl ?_
  refine z_iconst 1 rfl rfl ?_
  replace hw := hw _ rfl
  refine z_puti (ci := 5) 0 rfl h_k rfl w_118 rfl (by decide) rfl ?_
  refine z_aload_n rfl rfl ?_
  refine z_iload_n rfl rfl ?_
  replace hw := hw _ rfl
  refine z_puti (ci := 5) 1 rfl h_k rfl w_120 rfl rfl rfl ?_
  refine z_aload_n rfl rfl ?_
  refine z_iload_n rfl rfl ?_
  replace hw := hw _ rfl
  refine z_puti (ci := 5) 6 rfl h_k rfl w_130 rfl rfl rfl ?_
  refine z_aload_n rfl rfl ?_
  refine z_iload_n rfl rfl ?_
  replace hw := hw _ rfl
  refine z_puti (ci := 5) 7 rfl h_k rfl w_132 rfl rfl rfl ?_
  exact z_vret rfl rfl rfl rfl (Or.inl ⟨_, rfl, rfl, hw⟩)
def ci_setBox (post : Mem → Prop) (S : Mem) (k : Nat) (l1 : Int32) (l2 : Int32) (l3 : Int32) (l4 : Int32) : Prop :=
  ∀ S1, S1 = up2 S k 2 l1 → ∀ S2, S2 = up2 S1 k 3 l2 → ∀ S3, S3 = up2 S2 k 4 l3 → ∀ S4, S4 = up2 S3 k 5 l4 → post S4
set_option maxRecDepth 100000 in
set_option maxHeartbeats 1000000 in
theorem zci_setBox {g : Gm} {G : Gp} {S : Mem} {post : Mem → Prop} {k : Nat} {l1 : Int32} {l2 : Int32} {l3 : Int32} {l4 : Int32} (hx : G.2.2.2 = false) (hG : isD G) (h_k : isI G k) (hw : ci_setBox post S k l1 l2 l3 l4) : Z g M_i_setBox 0 0 0 (entryL [.ref k, .int l1, .int l2, .int l3, .int l4] (mL M_i_setBox)) [] (S, G) (Qv G post noEx) := by
  unfold ci_setBox at hw
  show Z g M_i_setBox 0 0 0 [some (.ref k), some (.int l1), some (.int l2), some (.int l3), some (.int l4)] [] (S, G) (Qv G post noEx)
  refine z_aload_n rfl rfl ?_
  refine z_iload_n rfl rfl ?_
  replace hw := hw _ rfl
  refine z_puti (ci := 5) 2 rfl h_k rfl w_122 rfl rfl rfl ?_
  refine z_aload_n rfl rfl ?_
  refine z_iload_n rfl rfl ?_
  replace hw := hw _ rfl
  refine z_puti (ci := 5) 3 rfl h_k rfl w_124 rfl rfl rfl ?_
  refine z_aload_n rfl rfl ?_
  refine z_iload_n rfl rfl ?_
  replace hw := hw _ rfl
  refine z_puti (ci := 5) 4 rfl h_k rfl w_126 rfl rfl rfl ?_
  refine z_aload_n rfl rfl ?_
  refine z_iload rfl rfl ?_
  replace hw := hw _ rfl
  refine z_puti (ci := 5) 5 rfl h_k rfl w_128 rfl rfl rfl ?_
  exact z_vret rfl rfl rfl rfl (Or.inl ⟨_, rfl, rfl, hw⟩)
def cw_insert (post : Mem → Prop) (S : Mem) (k : Nat) (l1 : Int32) (l2 : Int32) : Prop :=
  (¬ l2 < 0) ∧ (¬ (l2 + 1) < 0) ∧ (¬ ((S k 2) - l2) < 0) ∧ (l2.toNatClampNeg + ((S k 2) - l2).toNatClampNeg ≤ 12) ∧ ((l2 + 1).toNatClampNeg + ((S k 2) - l2).toNatClampNeg ≤ 12) ∧ ∀ S1, S1 = cpy2 S (k + 26) (k + 26) l2.toNatClampNeg (l2 + 1).toNatClampNeg ((S k 2) - l2).toNatClampNeg → (vp_in l2 12) ∧ ∀ S2, S2 = up2 S1 (k + 26) l2.toNatClampNeg l1 → ∀ S3, S3 = up2 S2 k 2 ((S2 k 2) + 1) → post S3
set_option maxRecDepth 100000 in
set_option maxHeartbeats 1000000 in
theorem zcw_insert {g : Gm} {G : Gp} {S : Mem} {post : Mem → Prop} {k : Nat} {l1 : Int32} {l2 : Int32} (hx : G.2.2.2 = false) (hG : isD G) (h_k : isW G k) (hw : cw_insert post S k l1 l2) : Z g M_w_insert 0 0 0 (entryL [.ref k, .int l1, .int l2] (mL M_w_insert)) [] (S, G) (Qv G post noEx) := by
  unfold cw_insert at hw
  show Z g M_w_insert 0 0 0 [some (.ref k), some (.int l1), some (.int l2)] [] (S, G) (Qv G post noEx)
  refine z_aload_n rfl rfl ?_
  refine z_getr (ci := 6) 1 rfl h_k.1 rfl w_153 h_k.2.2.2.1 ?_
  refine z_iload_n rfl rfl ?_
  refine z_aload_n rfl rfl ?_
  refine z_getr (ci := 6) 1 rfl h_k.1 rfl w_153 h_k.2.2.2.1 ?_
  refine z_iload_n rfl rfl ?_
  refine z_iconst 1 rfl rfl ?_
  refine z_iadd rfl ?_
  refine z_aload_n rfl rfl ?_
  refine z_geti (ci := 6) 2 rfl h_k.1 rfl w_155 ?_
  refine z_iload_n rfl rfl ?_
  refine z_isub rfl ?_
  obtain ⟨hc1, hw⟩ := hw
  obtain ⟨hc2, hw⟩ := hw
  obtain ⟨hc3, hw⟩ := hw
  obtain ⟨hc4, hw⟩ := hw
  obtain ⟨hc5, hw⟩ := hw
  replace hw := hw _ rfl
  refine z_copyi rfl w_363 w_cp1 w_cp2 w_cp3 rfl h_k.2.2.2.2.1 h_k.2.2.2.2.1 hc1 hc2 hc3 hc4 hc5 ?_
  refine z_aload_n rfl rfl ?_
  refine z_getr (ci := 6) 1 rfl h_k.1 rfl w_153 h_k.2.2.2.1 ?_
  refine z_iload_n rfl rfl ?_
  refine z_iload_n rfl rfl ?_
  obtain ⟨hc6, hw⟩ := hw
  replace hw := hw _ rfl
  refine z_iast (l2.toNatClampNeg) rfl h_k.2.2.2.2.1 hc6 rfl ?_
  refine z_aload_n rfl rfl ?_
  refine z_dup rfl rfl ?_
  refine z_geti (ci := 6) 2 rfl h_k.1 rfl w_155 ?_
  refine z_iconst 1 rfl rfl ?_
  refine z_iadd rfl ?_
  replace hw := hw _ rfl
  refine z_puti (ci := 6) 2 rfl h_k.1 rfl w_155 rfl rfl rfl ?_
  exact z_vret rfl rfl rfl rfl (Or.inl ⟨_, rfl, rfl, hw⟩)
def cw_make (post : Int32 → Mem → Prop) (S : Mem) (k : Nat) (l1 : Nat) (l2 : Int32) : Prop :=
  
  
  ((12 ≤ (S k 2)) →
   post 0 S) ∧
  ((¬ 12 ≤ (S k 2)) →
   ci_keepsLimits (fun r1 S1 =>
    ((¬ r1 = 0) →
     (vp_in l2 24) ∧ ci_becomeShape (fun S2 =>
      (vp_in l2 24) ∧ ci_setBox (fun S3 =>
       cw_insert (fun S4 =>
        post 1 S4) S3 k l2 (S3 k 2)) S2 ((k + 2) + l2.toNatClampNeg) (S (l1 + 1) 1) (S (l1 + 1) 2) ((S (l1 + 1) 3) - (S (l1 + 1) 3) / 128 * 128) ((S (l1 + 1) 3) / 128)) S1 ((k + 2) + l2.toNatClampNeg) (S1 (l1 + 1) 0) 0 (-1)) ∧
    ((r1 = 0) →
     post 0 S1)) S (S (l1 + 1) 1) (S (l1 + 1) 2) ((S (l1 + 1) 3) - (S (l1 + 1) 3) / 128 * 128) ((S (l1 + 1) 3) / 128))
set_option maxRecDepth 100000 in
set_option maxHeartbeats 1000000 in
theorem zcw_make {g : Gm} {G : Gp} {S : Mem} {post : Int32 → Mem → Prop} {k : Nat} {l1 : Nat} {l2 : Int32} (hx : G.2.2.2 = false) (hG : isD G) (h_k : isW G k) (h_l1 : isA G l1) (hw : cw_make post S k l1 l2) : Z g M_w_make 0 0 0 (entryL [.ref k, .ref l1, .int l2] (mL M_w_make)) [] (S, G) (Qi G post noEx) := by
  unfold cw_make at hw
  show Z g M_w_make 0 0 0 [some (.ref k), some (.ref l1), some (.int l2), none, none, none, none] [] (S, G) (Qi G post noEx)
  refine z_aload_n rfl rfl ?_
  refine z_getr (ci := 1) 2 rfl h_l1.1 rfl w_40 h_l1.2.1 ?_
  refine z_iconst 1 rfl rfl ?_
  refine z_iald (1) rfl h_l1.2.2 (vp_lit rfl) rfl ?_
  refine z_istore_n [some (.ref k), some (.ref l1), some (.int l2), some (.int (S (l1 + 1) 1)), none, none, none] rfl rfl rfl ?_
  refine z_aload_n rfl rfl ?_
  refine z_getr (ci := 1) 2 rfl h_l1.1 rfl w_40 h_l1.2.1 ?_
  refine z_iconst 2 rfl rfl ?_
  refine z_iald (2) rfl h_l1.2.2 (vp_lit rfl) rfl ?_
  refine z_istore [some (.ref k), some (.ref l1), some (.int l2), some (.int (S (l1 + 1) 1)), some (.int (S (l1 + 1) 2)), none, none] rfl rfl rfl ?_
  refine z_aload_n rfl rfl ?_
  refine z_getr (ci := 1) 2 rfl h_l1.1 rfl w_40 h_l1.2.1 ?_
  refine z_iconst 3 rfl rfl ?_
  refine z_iald (3) rfl h_l1.2.2 (vp_lit rfl) rfl ?_
  refine z_csi (M' := M_a_widthOf) (post := fun v S' => ((S (l1 + 1) 3) - (S (l1 + 1) 3) / 128 * 128) = v ∧ S = S') [.int (S (l1 + 1) 3)] hx rfl w_346 cs_a_widthOf rfl rfl rfl (zca_widthOf hx hG (⟨rfl, rfl⟩)) ?_ (fun _ _ hf => hf.elim)
  rintro v S' ⟨rfl, rfl⟩
  refine z_istore [some (.ref k), some (.ref l1), some (.int l2), some (.int (S (l1 + 1) 1)), some (.int (S (l1 + 1) 2)), some (.int ((S (l1 + 1) 3) - (S (l1 + 1) 3) / 128 * 128)), none] rfl rfl rfl ?_
  refine z_aload_n rfl rfl ?_
  refine z_getr (ci := 1) 2 rfl h_l1.1 rfl w_40 h_l1.2.1 ?_
  refine z_iconst 3 rfl rfl ?_
  refine z_iald (3) rfl h_l1.2.2 (vp_lit rfl) rfl ?_
  refine z_csi (M' := M_a_heightOf) (post := fun v S' => ((S (l1 + 1) 3) / 128) = v ∧ S = S') [.int (S (l1 + 1) 3)] hx rfl w_347 cs_a_heightOf rfl rfl rfl (zca_heightOf hx hG (⟨rfl, rfl⟩)) ?_ (fun _ _ hf => hf.elim)
  rintro v S' ⟨rfl, rfl⟩
  refine z_istore [some (.ref k), some (.ref l1), some (.int l2), some (.int (S (l1 + 1) 1)), some (.int (S (l1 + 1) 2)), some (.int ((S (l1 + 1) 3) - (S (l1 + 1) 3) / 128 * 128)), some (.int ((S (l1 + 1) 3) / 128))] rfl rfl rfl ?_
  refine z_aload_n rfl rfl ?_
  refine z_geti (ci := 6) 2 rfl h_k.1 rfl w_155 ?_
  refine z_bipush 12 rfl rfl ?_
  refine z_icmp_ge rfl (fun hq => ?_) (fun hq => ?_)
  · replace hw := hw.1 hq
    refine z_iconst 0 rfl rfl ?_
    exact z_zret rfl rfl (by decide) rfl rfl (Or.inl ⟨_, _, rfl, rfl, hw⟩)
  · replace hw := hw.2 hq
    refine z_iload_n rfl rfl ?_
    refine z_iload rfl rfl ?_
    refine z_iload rfl rfl ?_
    refine z_iload rfl rfl ?_
    refine z_csi (M' := M_i_keepsLimits) [.int (S (l1 + 1) 1), .int (S (l1 + 1) 2), .int ((S (l1 + 1) 3) - (S (l1 + 1) 3) / 128 * 128), .int ((S (l1 + 1) 3) / 128)] hx rfl w_348 cs_i_keepsLimits rfl rfl rfl (zci_keepsLimits hx hG hw) ?_ (fun _ _ hf => hf.elim)
    clear hw
    intro r1 S1 hw
    refine z_if_ne rfl (fun hq => ?_) (fun hq => ?_)
    · replace hw := hw.1 hq
      refine z_aload_n rfl rfl ?_
      refine z_getr (ci := 6) 0 rfl h_k.1 rfl w_151 h_k.2.1 ?_
      refine z_iload_n rfl rfl ?_
      obtain ⟨hc1, hw⟩ := hw
      refine z_aaldI rfl h_k.2.2.1.1 hc1 (h_k.2.2.1.2 _ (vlt hc1)).1 ?_
      refine z_aload_n rfl rfl ?_
      refine z_getr (ci := 1) 2 rfl h_l1.1 rfl w_40 h_l1.2.1 ?_
      refine z_iconst 0 rfl rfl ?_
      refine z_iald (0) rfl h_l1.2.2 (vp_lit rfl) rfl ?_
      refine z_iconst 0 rfl rfl ?_
      refine z_iconst (-1) rfl rfl ?_
      refine z_cvv (M' := M_i_becomeShape) [.int (S1 (l1 + 1) 0), .int 0, .int (-1)] hx rfl w_351 cv_i_becomeShape (h_k.2.2.1.2 _ (vlt hc1)).2 (by decide) rfl rfl rfl rfl (zci_becomeShape hx hG (h_k.2.2.1.2 _ (vlt hc1)).2 hw) ?_ (fun _ _ hf => hf.elim)
      clear hw
      intro S2 hw
      refine z_aload_n rfl rfl ?_
      refine z_getr (ci := 6) 0 rfl h_k.1 rfl w_151 h_k.2.1 ?_
      refine z_iload_n rfl rfl ?_
      obtain ⟨hc2, hw⟩ := hw
      refine z_aaldI rfl h_k.2.2.1.1 hc2 (h_k.2.2.1.2 _ (vlt hc2)).1 ?_
      refine z_iload_n rfl rfl ?_
      refine z_iload rfl rfl ?_
      refine z_iload rfl rfl ?_
      refine z_iload rfl rfl ?_
      refine z_cvv (M' := M_i_setBox) [.int (S (l1 + 1) 1), .int (S (l1 + 1) 2), .int ((S (l1 + 1) 3) - (S (l1 + 1) 3) / 128 * 128), .int ((S (l1 + 1) 3) / 128)] hx rfl w_355 cv_i_setBox (h_k.2.2.1.2 _ (vlt hc2)).2 (by decide) rfl rfl rfl rfl (zci_setBox hx hG (h_k.2.2.1.2 _ (vlt hc2)).2 hw) ?_ (fun _ _ hf => hf.elim)
      clear hw
      intro S3 hw
      refine z_aload_n rfl rfl ?_
      refine z_iload_n rfl rfl ?_
      refine z_aload_n rfl rfl ?_
      refine z_geti (ci := 6) 2 rfl h_k.1 rfl w_155 ?_
      refine z_cvv (M' := M_w_insert) [.int l2, .int (S3 k 2)] hx rfl w_359 cv_w_insert h_k.1 (by decide) rfl rfl rfl rfl (zcw_insert hx hG h_k hw) ?_ (fun _ _ hf => hf.elim)
      clear hw
      intro S4 hw
      refine z_iconst 1 rfl rfl ?_
      exact z_zret rfl rfl (by decide) rfl rfl (Or.inl ⟨_, _, rfl, rfl, hw⟩)
    · replace hw := hw.2 hq
      refine z_iconst 0 rfl rfl ?_
      exact z_zret rfl rfl (by decide) rfl rfl (Or.inl ⟨_, _, rfl, rfl, hw⟩)
def cw_placeOf_L2 (post : Int32 → Mem → Prop)  : Nat → Mem → Nat → Int32 → Int32 → Prop
  | 0, _, _, _, _ => False
  | n + 1, S, k, l1, l2 =>
  (((S k 2) ≤ l2) →
   post (S k 2) S) ∧
  ((¬ (S k 2) ≤ l2) →
   (vp_in l2 12) ∧ ((¬ (S (k + 26) l2.toNatClampNeg) = l1) →
    cw_placeOf_L2 post n S k l1 (l2 + 1)) ∧
   (((S (k + 26) l2.toNatClampNeg) = l1) →
    post l2 S))
set_option maxRecDepth 100000 in
set_option maxHeartbeats 1000000 in
theorem zcw_placeOf_L2 {g : Gm} {G : Gp} {post : Int32 → Mem → Prop} (hx : G.2.2.2 = false) (hG : isD G) : ∀ (n : Nat) {S : Mem} {k : Nat} {l1 : Int32} {l2 : Int32}  (h_k : isW G k), cw_placeOf_L2 post n S k l1 l2 → Z g M_w_placeOf 0 0 2 [some (.ref k), some (.int l1), some (.int l2)] [] (S, G) (Qi G post noEx) := by
  intro n
  induction n with
  | zero =>
    intros
    rename_i hw
    exact hw.elim
  | succ n ih =>
    intro S k l1 l2 h_k hw
    rw [cw_placeOf_L2] at hw
    refine z_iload_n rfl rfl ?_
    refine z_aload_n rfl rfl ?_
    refine z_geti (ci := 6) 2 rfl h_k.1 rfl w_155 ?_
    refine z_icmp_ge rfl (fun hq => ?_) (fun hq => ?_)
    · replace hw := hw.1 hq
      refine z_aload_n rfl rfl ?_
      refine z_geti (ci := 6) 2 rfl h_k.1 rfl w_155 ?_
      exact z_iret rfl rfl rfl rfl (Or.inl ⟨_, _, rfl, rfl, hw⟩)
    · replace hw := hw.2 hq
      refine z_aload_n rfl rfl ?_
      refine z_getr (ci := 6) 1 rfl h_k.1 rfl w_153 h_k.2.2.2.1 ?_
      refine z_iload_n rfl rfl ?_
      obtain ⟨hc1, hw⟩ := hw
      refine z_iald (l2.toNatClampNeg) rfl h_k.2.2.2.2.1 hc1 rfl ?_
      refine z_iload_n rfl rfl ?_
      refine z_icmp_ne rfl (fun hq => ?_) (fun hq => ?_)
      · replace hw := hw.1 hq
        refine z_iinc 1 [some (.ref k), some (.int l1), some (.int (l2 + 1))] rfl rfl rfl rfl ?_
        refine z_goto rfl ?_
        refine Z.forget' [some (.ref k), some (.int l1), some (.int (l2 + 1))] ⟨rfl, ⟨rfl, ⟨rfl, trivial⟩⟩⟩ ?_
        exact ih h_k hw
      · replace hw := hw.2 hq
        refine z_iload_n rfl rfl ?_
        exact z_iret rfl rfl rfl rfl (Or.inl ⟨_, _, rfl, rfl, hw⟩)
def cw_placeOf (post : Int32 → Mem → Prop) (S : Mem) (k : Nat) (l1 : Int32) : Prop :=
  ∃ n, cw_placeOf_L2 post n S k l1 0
set_option maxRecDepth 100000 in
set_option maxHeartbeats 1000000 in
theorem zcw_placeOf {g : Gm} {G : Gp} {S : Mem} {post : Int32 → Mem → Prop} {k : Nat} {l1 : Int32} (hx : G.2.2.2 = false) (hG : isD G) (h_k : isW G k) (hw : cw_placeOf post S k l1) : Z g M_w_placeOf 0 0 0 (entryL [.ref k, .int l1] (mL M_w_placeOf)) [] (S, G) (Qi G post noEx) := by
  unfold cw_placeOf at hw
  show Z g M_w_placeOf 0 0 0 [some (.ref k), some (.int l1), none] [] (S, G) (Qi G post noEx)
  refine z_iconst 0 rfl rfl ?_
  refine z_istore_n [some (.ref k), some (.int l1), some (.int 0)] rfl rfl rfl ?_
  refine Z.forget' [some (.ref k), some (.int l1), some (.int 0)] ⟨rfl, ⟨rfl, ⟨rfl, trivial⟩⟩⟩ ?_
  obtain ⟨n, hw⟩ := hw
  exact zcw_placeOf_L2 hx hG n h_k hw
def cw_isIn_L5 (post : Int32 → Mem → Prop)  : Nat → Mem → Nat → Int32 → Int32 → Int32 → Prop
  | 0, _, _, _, _, _ => False
  | n + 1, S, k, l2, l3, l4 =>
  ((12 ≤ l4) →
   post 0 S) ∧
  ((¬ 12 ≤ l4) →
   ((l3 = (-1)) →
    post 0 S) ∧
   ((¬ l3 = (-1)) →
    ((¬ l3 = l2) →
     (vp_in l3 24) ∧ cw_isIn_L5 post n S k l2 (S ((k + 2) + l3.toNatClampNeg) 7) (l4 + 1)) ∧
    ((l3 = l2) →
     post 1 S)))
set_option maxRecDepth 100000 in
set_option maxHeartbeats 1000000 in
theorem zcw_isIn_L5 {g : Gm} {G : Gp} {post : Int32 → Mem → Prop} (hx : G.2.2.2 = false) (hG : isD G) : ∀ (n : Nat) {S : Mem} {k : Nat} {l2 : Int32} {l3 : Int32} {l4 : Int32}  (h_k : isW G k), cw_isIn_L5 post n S k l2 l3 l4 → Z g M_w_isIn 0 0 5 [some (.ref k), none, some (.int l2), some (.int l3), some (.int l4)] [] (S, G) (Qi G post noEx) := by
  intro n
  induction n with
  | zero =>
    intros
    rename_i hw
    exact hw.elim
  | succ n ih =>
    intro S k l2 l3 l4 h_k hw
    rw [cw_isIn_L5] at hw
    refine z_iload rfl rfl ?_
    refine z_bipush 12 rfl rfl ?_
    refine z_icmp_ge rfl (fun hq => ?_) (fun hq => ?_)
    · replace hw := hw.1 hq
      refine z_iconst 0 rfl rfl ?_
      exact z_zret rfl rfl (by decide) rfl rfl (Or.inl ⟨_, _, rfl, rfl, hw⟩)
    · replace hw := hw.2 hq
      refine z_iload_n rfl rfl ?_
      refine z_iconst (-1) rfl rfl ?_
      refine z_icmp_eq rfl (fun hq => ?_) (fun hq => ?_)
      · replace hw := hw.1 hq
        refine z_iconst 0 rfl rfl ?_
        exact z_zret rfl rfl (by decide) rfl rfl (Or.inl ⟨_, _, rfl, rfl, hw⟩)
      · replace hw := hw.2 hq
        refine z_iload_n rfl rfl ?_
        refine z_iload_n rfl rfl ?_
        refine z_icmp_ne rfl (fun hq => ?_) (fun hq => ?_)
        · replace hw := hw.1 hq
          refine z_aload_n rfl rfl ?_
          refine z_getr (ci := 6) 0 rfl h_k.1 rfl w_151 h_k.2.1 ?_
          refine z_iload_n rfl rfl ?_
          obtain ⟨hc1, hw⟩ := hw
          refine z_aaldI rfl h_k.2.2.1.1 hc1 (h_k.2.2.1.2 _ (vlt hc1)).1 ?_
          refine z_geti (ci := 5) 7 rfl (h_k.2.2.1.2 _ (vlt hc1)).2 rfl w_133 ?_
          refine z_istore_n [some (.ref k), none, some (.int l2), some (.int (S ((k + 2) + l3.toNatClampNeg) 7)), some (.int l4)] rfl rfl rfl ?_
          refine z_iinc 1 [some (.ref k), none, some (.int l2), some (.int (S ((k + 2) + l3.toNatClampNeg) 7)), some (.int (l4 + 1))] rfl rfl rfl rfl ?_
          refine z_goto rfl ?_
          refine Z.forget' [some (.ref k), none, some (.int l2), some (.int (S ((k + 2) + l3.toNatClampNeg) 7)), some (.int (l4 + 1))] ⟨rfl, ⟨rfl, ⟨rfl, ⟨rfl, trivial⟩⟩⟩⟩ ?_
          exact ih h_k hw
        · replace hw := hw.2 hq
          refine z_iconst 1 rfl rfl ?_
          exact z_zret rfl rfl (by decide) rfl rfl (Or.inl ⟨_, _, rfl, rfl, hw⟩)
def cw_isIn (post : Int32 → Mem → Prop) (S : Mem) (k : Nat) (l1 : Int32) (l2 : Int32) : Prop :=
  ∃ n, cw_isIn_L5 post n S k l2 l1 0
set_option maxRecDepth 100000 in
set_option maxHeartbeats 1000000 in
theorem zcw_isIn {g : Gm} {G : Gp} {S : Mem} {post : Int32 → Mem → Prop} {k : Nat} {l1 : Int32} {l2 : Int32} (hx : G.2.2.2 = false) (hG : isD G) (h_k : isW G k) (hw : cw_isIn post S k l1 l2) : Z g M_w_isIn 0 0 0 (entryL [.ref k, .int l1, .int l2] (mL M_w_isIn)) [] (S, G) (Qi G post noEx) := by
  unfold cw_isIn at hw
  show Z g M_w_isIn 0 0 0 [some (.ref k), some (.int l1), some (.int l2), none, none] [] (S, G) (Qi G post noEx)
  refine z_iload_n rfl rfl ?_
  refine z_istore_n [some (.ref k), some (.int l1), some (.int l2), some (.int l1), none] rfl rfl rfl ?_
  refine z_iconst 0 rfl rfl ?_
  refine z_istore [some (.ref k), some (.int l1), some (.int l2), some (.int l1), some (.int 0)] rfl rfl rfl ?_
  refine Z.forget' [some (.ref k), none, some (.int l2), some (.int l1), some (.int 0)] ⟨rfl, ⟨rfl, ⟨rfl, ⟨rfl, trivial⟩⟩⟩⟩ ?_
  obtain ⟨n, hw⟩ := hw
  exact zcw_isIn_L5 hx hG n h_k hw
def cw_endOf_L8 (post : Int32 → Mem → Prop)  : Nat → Mem → Nat → Int32 → Int32 → Prop
  | 0, _, _, _, _ => False
  | n + 1, S, k, l1, l2 =>
  (((S k 2) ≤ l2) →
   post l2 S) ∧
  ((¬ (S k 2) ≤ l2) →
   (vp_in l2 12) ∧ cw_isIn (fun r1 S1 =>
    ((r1 = 0) →
     post l2 S1) ∧
    ((¬ r1 = 0) →
     cw_endOf_L8 post n S1 k l1 (l2 + 1))) S k (S (k + 26) l2.toNatClampNeg) l1)
set_option maxRecDepth 100000 in
set_option maxHeartbeats 1000000 in
theorem zcw_endOf_L8 {g : Gm} {G : Gp} {post : Int32 → Mem → Prop} (hx : G.2.2.2 = false) (hG : isD G) : ∀ (n : Nat) {S : Mem} {k : Nat} {l1 : Int32} {l2 : Int32}  (h_k : isW G k), cw_endOf_L8 post n S k l1 l2 → Z g M_w_endOf 0 0 8 [some (.ref k), some (.int l1), some (.int l2)] [] (S, G) (Qi G post noEx) := by
  intro n
  induction n with
  | zero =>
    intros
    rename_i hw
    exact hw.elim
  | succ n ih =>
    intro S k l1 l2 h_k hw
    rw [cw_endOf_L8] at hw
    refine z_iload_n rfl rfl ?_
    refine z_aload_n rfl rfl ?_
    refine z_geti (ci := 6) 2 rfl h_k.1 rfl w_155 ?_
    refine z_icmp_ge rfl (fun hq => ?_) (fun hq => ?_)
    · replace hw := hw.1 hq
      refine z_iload_n rfl rfl ?_
      exact z_iret rfl rfl rfl rfl (Or.inl ⟨_, _, rfl, rfl, hw⟩)
    · replace hw := hw.2 hq
      refine z_aload_n rfl rfl ?_
      refine z_aload_n rfl rfl ?_
      refine z_getr (ci := 6) 1 rfl h_k.1 rfl w_153 h_k.2.2.2.1 ?_
      refine z_iload_n rfl rfl ?_
      obtain ⟨hc1, hw⟩ := hw
      refine z_iald (l2.toNatClampNeg) rfl h_k.2.2.2.2.1 hc1 rfl ?_
      refine z_iload_n rfl rfl ?_
      refine z_cvi (M' := M_w_isIn) [.int (S (k + 26) l2.toNatClampNeg), .int l1] hx rfl w_378 cv_w_isIn h_k.1 (by decide) rfl rfl rfl rfl (zcw_isIn hx hG h_k hw) ?_ (fun _ _ hf => hf.elim)
      clear hw
      intro r1 S1 hw
      refine z_if_eq rfl (fun hq => ?_) (fun hq => ?_)
      · replace hw := hw.1 hq
        refine z_iload_n rfl rfl ?_
        exact z_iret rfl rfl rfl rfl (Or.inl ⟨_, _, rfl, rfl, hw⟩)
      · replace hw := hw.2 hq
        refine z_iinc 1 [some (.ref k), some (.int l1), some (.int (l2 + 1))] rfl rfl rfl rfl ?_
        refine z_goto rfl ?_
        refine Z.forget' [some (.ref k), some (.int l1), some (.int (l2 + 1))] ⟨rfl, ⟨rfl, ⟨rfl, trivial⟩⟩⟩ ?_
        exact ih h_k hw
def cw_endOf (post : Int32 → Mem → Prop) (S : Mem) (k : Nat) (l1 : Int32) : Prop :=
  cw_placeOf (fun r1 S1 =>
   ∃ n, cw_endOf_L8 post n S1 k l1 (r1 + 1)) S k l1
set_option maxRecDepth 100000 in
set_option maxHeartbeats 1000000 in
theorem zcw_endOf {g : Gm} {G : Gp} {S : Mem} {post : Int32 → Mem → Prop} {k : Nat} {l1 : Int32} (hx : G.2.2.2 = false) (hG : isD G) (h_k : isW G k) (hw : cw_endOf post S k l1) : Z g M_w_endOf 0 0 0 (entryL [.ref k, .int l1] (mL M_w_endOf)) [] (S, G) (Qi G post noEx) := by
  unfold cw_endOf at hw
  show Z g M_w_endOf 0 0 0 [some (.ref k), some (.int l1), none] [] (S, G) (Qi G post noEx)
  refine z_aload_n rfl rfl ?_
  refine z_iload_n rfl rfl ?_
  refine z_cvi (M' := M_w_placeOf) [.int l1] hx rfl w_370 cv_w_placeOf h_k.1 (by decide) rfl rfl rfl rfl (zcw_placeOf hx hG h_k hw) ?_ (fun _ _ hf => hf.elim)
  clear hw
  intro r1 S1 hw
  refine z_iconst 1 rfl rfl ?_
  refine z_iadd rfl ?_
  refine z_istore_n [some (.ref k), some (.int l1), some (.int (r1 + 1))] rfl rfl rfl ?_
  refine Z.forget' [some (.ref k), some (.int l1), some (.int (r1 + 1))] ⟨rfl, ⟨rfl, ⟨rfl, trivial⟩⟩⟩ ?_
  obtain ⟨n, hw⟩ := hw
  exact zcw_endOf_L8 hx hG n h_k hw
def cw_removeBlock_L2 (post : Mem → Prop)  : Nat → Mem → Nat → Int32 → Int32 → Int32 → Prop
  | 0, _, _, _, _, _ => False
  | n + 1, S, k, l1, l2, l3 =>
  ((l2 ≤ l3) →
   (¬ l2 < 0) ∧ (¬ l1 < 0) ∧ (¬ ((S k 2) - l2) < 0) ∧ (l2.toNatClampNeg + ((S k 2) - l2).toNatClampNeg ≤ 12) ∧ (l1.toNatClampNeg + ((S k 2) - l2).toNatClampNeg ≤ 12) ∧ ∀ S1, S1 = cpy2 S (k + 26) (k + 26) l2.toNatClampNeg l1.toNatClampNeg ((S k 2) - l2).toNatClampNeg → ∀ S2, S2 = up2 S1 k 2 ((S1 k 2) - (l2 - l1)) → post S2) ∧
  ((¬ l2 ≤ l3) →
   (vp_in l3 12) ∧ (vp_in (S (k + 26) l3.toNatClampNeg) 24) ∧ ∀ S3, S3 = up2 S ((k + 2) + (S (k + 26) l3.toNatClampNeg).toNatClampNeg) 0 0 → cw_removeBlock_L2 post n S3 k l1 l2 (l3 + 1))
set_option maxRecDepth 100000 in
set_option maxHeartbeats 1000000 in
theorem zcw_removeBlock_L2 {g : Gm} {G : Gp} {post : Mem → Prop} (hx : G.2.2.2 = false) (hG : isD G) : ∀ (n : Nat) {S : Mem} {k : Nat} {l1 : Int32} {l2 : Int32} {l3 : Int32}  (h_k : isW G k), cw_removeBlock_L2 post n S k l1 l2 l3 → Z g M_w_removeBlock 0 0 2 [some (.ref k), some (.int l1), some (.int l2), some (.int l3)] [] (S, G) (Qv G post noEx) := by
  intro n
  induction n with
  | zero =>
    intros
    rename_i hw
    exact hw.elim
  | succ n ih =>
    intro S k l1 l2 l3 h_k hw
    rw [cw_removeBlock_L2] at hw
    refine z_iload_n rfl rfl ?_
    refine z_iload_n rfl rfl ?_
    refine z_icmp_ge rfl (fun hq => ?_) (fun hq => ?_)
    · replace hw := hw.1 hq
      refine z_aload_n rfl rfl ?_
      refine z_getr (ci := 6) 1 rfl h_k.1 rfl w_153 h_k.2.2.2.1 ?_
      refine z_iload_n rfl rfl ?_
      refine z_aload_n rfl rfl ?_
      refine z_getr (ci := 6) 1 rfl h_k.1 rfl w_153 h_k.2.2.2.1 ?_
      refine z_iload_n rfl rfl ?_
      refine z_aload_n rfl rfl ?_
      refine z_geti (ci := 6) 2 rfl h_k.1 rfl w_155 ?_
      refine z_iload_n rfl rfl ?_
      refine z_isub rfl ?_
      obtain ⟨hc1, hw⟩ := hw
      obtain ⟨hc2, hw⟩ := hw
      obtain ⟨hc3, hw⟩ := hw
      obtain ⟨hc4, hw⟩ := hw
      obtain ⟨hc5, hw⟩ := hw
      replace hw := hw _ rfl
      refine z_copyi rfl w_363 w_cp1 w_cp2 w_cp3 rfl h_k.2.2.2.2.1 h_k.2.2.2.2.1 hc1 hc2 hc3 hc4 hc5 ?_
      refine z_aload_n rfl rfl ?_
      refine z_dup rfl rfl ?_
      refine z_geti (ci := 6) 2 rfl h_k.1 rfl w_155 ?_
      refine z_iload_n rfl rfl ?_
      refine z_iload_n rfl rfl ?_
      refine z_isub rfl ?_
      refine z_isub rfl ?_
      replace hw := hw _ rfl
      refine z_puti (ci := 6) 2 rfl h_k.1 rfl w_155 rfl rfl rfl ?_
      exact z_vret rfl rfl rfl rfl (Or.inl ⟨_, rfl, rfl, hw⟩)
    · replace hw := hw.2 hq
      refine z_aload_n rfl rfl ?_
      refine z_getr (ci := 6) 0 rfl h_k.1 rfl w_151 h_k.2.1 ?_
      refine z_aload_n rfl rfl ?_
      refine z_getr (ci := 6) 1 rfl h_k.1 rfl w_153 h_k.2.2.2.1 ?_
      refine z_iload_n rfl rfl ?_
      obtain ⟨hc6, hw⟩ := hw
      refine z_iald (l3.toNatClampNeg) rfl h_k.2.2.2.2.1 hc6 rfl ?_
      obtain ⟨hc7, hw⟩ := hw
      refine z_aaldI rfl h_k.2.2.1.1 hc7 (h_k.2.2.1.2 _ (vlt hc7)).1 ?_
      refine z_iconst 0 rfl rfl ?_
      replace hw := hw _ rfl
      refine z_puti (ci := 5) 0 rfl (h_k.2.2.1.2 _ (vlt hc7)).2 rfl w_119 rfl (by decide) rfl ?_
      refine z_iinc 1 [some (.ref k), some (.int l1), some (.int l2), some (.int (l3 + 1))] rfl rfl rfl rfl ?_
      refine z_goto rfl ?_
      refine Z.forget' [some (.ref k), some (.int l1), some (.int l2), some (.int (l3 + 1))] ⟨rfl, ⟨rfl, ⟨rfl, ⟨rfl, trivial⟩⟩⟩⟩ ?_
      exact ih h_k hw
def cw_removeBlock (post : Mem → Prop) (S : Mem) (k : Nat) (l1 : Int32) (l2 : Int32) : Prop :=
  ∃ n, cw_removeBlock_L2 post n S k l1 l2 l1
set_option maxRecDepth 100000 in
set_option maxHeartbeats 1000000 in
theorem zcw_removeBlock {g : Gm} {G : Gp} {S : Mem} {post : Mem → Prop} {k : Nat} {l1 : Int32} {l2 : Int32} (hx : G.2.2.2 = false) (hG : isD G) (h_k : isW G k) (hw : cw_removeBlock post S k l1 l2) : Z g M_w_removeBlock 0 0 0 (entryL [.ref k, .int l1, .int l2] (mL M_w_removeBlock)) [] (S, G) (Qv G post noEx) := by
  unfold cw_removeBlock at hw
  show Z g M_w_removeBlock 0 0 0 [some (.ref k), some (.int l1), some (.int l2), none] [] (S, G) (Qv G post noEx)
  refine z_iload_n rfl rfl ?_
  refine z_istore_n [some (.ref k), some (.int l1), some (.int l2), some (.int l1)] rfl rfl rfl ?_
  refine Z.forget' [some (.ref k), some (.int l1), some (.int l2), some (.int l1)] ⟨rfl, ⟨rfl, ⟨rfl, ⟨rfl, trivial⟩⟩⟩⟩ ?_
  obtain ⟨n, hw⟩ := hw
  exact zcw_removeBlock_L2 hx hG n h_k hw
def cw_delete_L26 (post : Int32 → Mem → Prop)  : Nat → Mem → Nat → Int32 → Int32 → Prop
  | 0, _, _, _, _ => False
  | n + 1, S, k, l2, l3 =>
  ((12 ≤ l3) →
   post 1 S) ∧
  ((¬ 12 ≤ l3) →
   ((l2 = (-1)) →
    post 1 S) ∧
   ((¬ l2 = (-1)) →
    cw_endOf (fun r1 S1 =>
     cw_placeOf (fun r2 S2 =>
      (((r1 - r2) ≤ 1) →
       (vp_in l2 24) ∧ cw_placeOf (fun r3 S3 =>
        cw_endOf (fun r4 S4 =>
         cw_removeBlock (fun S5 =>
          cw_delete_L26 post n S5 k (S2 ((k + 2) + l2.toNatClampNeg) 7) (l3 + 1)) S4 k r3 r4) S3 k l2) S2 k l2) ∧
      ((¬ (r1 - r2) ≤ 1) →
       post 1 S2)) S1 k l2) S k l2))
set_option maxRecDepth 100000 in
set_option maxHeartbeats 1000000 in
theorem zcw_delete_L26 {g : Gm} {G : Gp} {post : Int32 → Mem → Prop} (hx : G.2.2.2 = false) (hG : isD G) : ∀ (n : Nat) {S : Mem} {k : Nat} {l2 : Int32} {l3 : Int32}  (h_k : isW G k), cw_delete_L26 post n S k l2 l3 → Z g M_w_delete 0 0 26 [some (.ref k), none, some (.int l2), some (.int l3), none] [] (S, G) (Qi G post noEx) := by
  intro n
  induction n with
  | zero =>
    intros
    rename_i hw
    exact hw.elim
  | succ n ih =>
    intro S k l2 l3 h_k hw
    rw [cw_delete_L26] at hw
    refine z_iload_n rfl rfl ?_
    refine z_bipush 12 rfl rfl ?_
    refine z_icmp_ge rfl (fun hq => ?_) (fun hq => ?_)
    · replace hw := hw.1 hq
      refine z_iconst 1 rfl rfl ?_
      exact z_zret rfl rfl (by decide) rfl rfl (Or.inl ⟨_, _, rfl, rfl, hw⟩)
    · replace hw := hw.2 hq
      refine z_iload_n rfl rfl ?_
      refine z_iconst (-1) rfl rfl ?_
      refine z_icmp_eq rfl (fun hq => ?_) (fun hq => ?_)
      · replace hw := hw.1 hq
        refine z_iconst 1 rfl rfl ?_
        exact z_zret rfl rfl (by decide) rfl rfl (Or.inl ⟨_, _, rfl, rfl, hw⟩)
      · replace hw := hw.2 hq
        refine z_iload_n rfl rfl ?_
        refine z_istore [some (.ref k), none, some (.int l2), some (.int l3), some (.int l2)] rfl rfl rfl ?_
        refine z_aload_n rfl rfl ?_
        refine z_iload rfl rfl ?_
        refine z_cvi (M' := M_w_endOf) [.int l2] hx rfl w_374 cv_w_endOf h_k.1 (by decide) rfl rfl rfl rfl (zcw_endOf hx hG h_k hw) ?_ (fun _ _ hf => hf.elim)
        clear hw
        intro r1 S1 hw
        refine z_aload_n rfl rfl ?_
        refine z_iload rfl rfl ?_
        refine z_cvi (M' := M_w_placeOf) [.int l2] hx rfl w_370 cv_w_placeOf h_k.1 (by decide) rfl rfl rfl rfl (zcw_placeOf hx hG h_k hw) ?_ (fun _ _ hf => hf.elim)
        clear hw
        intro r2 S2 hw
        refine z_isub rfl ?_
        refine z_iconst 1 rfl rfl ?_
        refine z_icmp_le rfl (fun hq => ?_) (fun hq => ?_)
        · replace hw := hw.1 hq
          refine z_aload_n rfl rfl ?_
          refine z_getr (ci := 6) 0 rfl h_k.1 rfl w_151 h_k.2.1 ?_
          refine z_iload rfl rfl ?_
          obtain ⟨hc1, hw⟩ := hw
          refine z_aaldI rfl h_k.2.2.1.1 hc1 (h_k.2.2.1.2 _ (vlt hc1)).1 ?_
          refine z_geti (ci := 5) 7 rfl (h_k.2.2.1.2 _ (vlt hc1)).2 rfl w_133 ?_
          refine z_istore_n [some (.ref k), none, some (.int (S2 ((k + 2) + l2.toNatClampNeg) 7)), some (.int l3), some (.int l2)] rfl rfl rfl ?_
          refine z_aload_n rfl rfl ?_
          refine z_aload_n rfl rfl ?_
          refine z_iload rfl rfl ?_
          refine z_cvi (M' := M_w_placeOf) [.int l2] hx rfl w_370 cv_w_placeOf h_k.1 (by decide) rfl rfl rfl rfl (zcw_placeOf hx hG h_k hw) ?_ (fun _ _ hf => hf.elim)
          clear hw
          intro r3 S3 hw
          refine z_aload_n rfl rfl ?_
          refine z_iload rfl rfl ?_
          refine z_cvi (M' := M_w_endOf) [.int l2] hx rfl w_374 cv_w_endOf h_k.1 (by decide) rfl rfl rfl rfl (zcw_endOf hx hG h_k hw) ?_ (fun _ _ hf => hf.elim)
          clear hw
          intro r4 S4 hw
          refine z_cvv (M' := M_w_removeBlock) [.int r3, .int r4] hx rfl w_382 cv_w_removeBlock h_k.1 (by decide) rfl rfl rfl rfl (zcw_removeBlock hx hG h_k hw) ?_ (fun _ _ hf => hf.elim)
          clear hw
          intro S5 hw
          refine z_iinc 1 [some (.ref k), none, some (.int (S2 ((k + 2) + l2.toNatClampNeg) 7)), some (.int (l3 + 1)), some (.int l2)] rfl rfl rfl rfl ?_
          refine z_goto rfl ?_
          refine Z.forget' [some (.ref k), none, some (.int (S2 ((k + 2) + l2.toNatClampNeg) 7)), some (.int (l3 + 1)), none] ⟨rfl, ⟨rfl, ⟨rfl, trivial⟩⟩⟩ ?_
          exact ih h_k hw
        · replace hw := hw.2 hq
          refine z_iconst 1 rfl rfl ?_
          exact z_zret rfl rfl (by decide) rfl rfl (Or.inl ⟨_, _, rfl, rfl, hw⟩)
def cw_delete (post : Int32 → Mem → Prop) (S : Mem) (k : Nat) (l1 : Int32) : Prop :=
  (vp_in l1 24) ∧ cw_placeOf (fun r1 S1 =>
   cw_endOf (fun r2 S2 =>
    cw_removeBlock (fun S3 =>
     ∃ n, cw_delete_L26 post n S3 k (S ((k + 2) + l1.toNatClampNeg) 7) 0) S2 k r1 r2) S1 k l1) S k l1
set_option maxRecDepth 100000 in
set_option maxHeartbeats 1000000 in
theorem zcw_delete {g : Gm} {G : Gp} {S : Mem} {post : Int32 → Mem → Prop} {k : Nat} {l1 : Int32} (hx : G.2.2.2 = false) (hG : isD G) (h_k : isW G k) (hw : cw_delete post S k l1) : Z g M_w_delete 0 0 0 (entryL [.ref k, .int l1] (mL M_w_delete)) [] (S, G) (Qi G post noEx) := by
  unfold cw_delete at hw
  show Z g M_w_delete 0 0 0 [some (.ref k), some (.int l1), none, none, none] [] (S, G) (Qi G post noEx)
  refine z_aload_n rfl rfl ?_
  refine z_getr (ci := 6) 0 rfl h_k.1 rfl w_151 h_k.2.1 ?_
  refine z_iload_n rfl rfl ?_
  obtain ⟨hc1, hw⟩ := hw
  refine z_aaldI rfl h_k.2.2.1.1 hc1 (h_k.2.2.1.2 _ (vlt hc1)).1 ?_
  refine z_geti (ci := 5) 7 rfl (h_k.2.2.1.2 _ (vlt hc1)).2 rfl w_133 ?_
  refine z_istore_n [some (.ref k), some (.int l1), some (.int (S ((k + 2) + l1.toNatClampNeg) 7)), none, none] rfl rfl rfl ?_
  refine z_aload_n rfl rfl ?_
  refine z_aload_n rfl rfl ?_
  refine z_iload_n rfl rfl ?_
  refine z_cvi (M' := M_w_placeOf) [.int l1] hx rfl w_370 cv_w_placeOf h_k.1 (by decide) rfl rfl rfl rfl (zcw_placeOf hx hG h_k hw) ?_ (fun _ _ hf => hf.elim)
  clear hw
  intro r1 S1 hw
  refine z_aload_n rfl rfl ?_
  refine z_iload_n rfl rfl ?_
  refine z_cvi (M' := M_w_endOf) [.int l1] hx rfl w_374 cv_w_endOf h_k.1 (by decide) rfl rfl rfl rfl (zcw_endOf hx hG h_k hw) ?_ (fun _ _ hf => hf.elim)
  clear hw
  intro r2 S2 hw
  refine z_cvv (M' := M_w_removeBlock) [.int r1, .int r2] hx rfl w_382 cv_w_removeBlock h_k.1 (by decide) rfl rfl rfl rfl (zcw_removeBlock hx hG h_k hw) ?_ (fun _ _ hf => hf.elim)
  clear hw
  intro S3 hw
  refine z_iconst 0 rfl rfl ?_
  refine z_istore_n [some (.ref k), some (.int l1), some (.int (S ((k + 2) + l1.toNatClampNeg) 7)), some (.int 0), none] rfl rfl rfl ?_
  refine Z.forget' [some (.ref k), none, some (.int (S ((k + 2) + l1.toNatClampNeg) 7)), some (.int 0), none] ⟨rfl, ⟨rfl, ⟨rfl, trivial⟩⟩⟩ ?_
  obtain ⟨n, hw⟩ := hw
  exact zcw_delete_L26 hx hG n h_k hw
def ci_isShape (post : Int32 → Mem → Prop) (S : Mem) (k : Nat) : Prop :=
  vp_nar .boolean (if (S k 1) = 3 then 0 else 1 : Int32) = (if (S k 1) = 3 then 0 else 1 : Int32) ∧ post (if (S k 1) = 3 then 0 else 1 : Int32) S
set_option maxRecDepth 100000 in
set_option maxHeartbeats 1000000 in
theorem zci_isShape {g : Gm} {G : Gp} {S : Mem} {post : Int32 → Mem → Prop} {k : Nat} (hx : G.2.2.2 = false) (hG : isD G) (h_k : isI G k) (hw : ci_isShape post S k) : Z g M_i_isShape 0 0 0 (entryL [.ref k] (mL M_i_isShape)) [] (S, G) (Qi G post noEx) := by
  unfold ci_isShape at hw
  show Z g M_i_isShape 0 0 0 [some (.ref k)] [] (S, G) (Qi G post noEx)
  refine z_aload_n rfl rfl ?_
  refine z_geti (ci := 5) 1 rfl h_k rfl w_120 ?_
  refine z_iconst 3 rfl rfl ?_
  have hj5 : ∀ v : Int32, v = (if (S k 1) = 3 then 0 else 1 : Int32) → Z g M_i_isShape 0 0 13 [some (.ref k)] [.int v] (S, G) (Qi G post noEx) := by
    intro v hv
    subst hv
    obtain ⟨hc1, hw⟩ := hw
    exact z_zret rfl rfl (nar_of hc1) rfl rfl (Or.inl ⟨_, _, rfl, rfl, hw⟩)
  refine z_icmp_eq rfl (fun hp5 => ?_) (fun hp5 => ?_)
  · refine z_iconst 0 rfl rfl ?_
    exact hj5 _ (by rw [if_pos hp5])
  · refine z_iconst 1 rfl rfl ?_
    refine z_goto rfl ?_
    exact hj5 _ (by rw [if_neg hp5])
def cw_isShapeIn (post : Int32 → Mem → Prop) (S : Mem) (k : Nat) (l1 : Int32) (l2 : Int32) : Prop :=
  (vp_in l1 24) ∧ ci_isShape (fun r1 S1 =>
   ((r1 = 0) →
    post 0 S1) ∧
   ((¬ r1 = 0) →
    cw_isIn (fun r2 S2 =>
     ((r2 = 0) →
      post 0 S2) ∧
     ((¬ r2 = 0) →
      post 1 S2)) S1 k l1 l2)) S ((k + 2) + l1.toNatClampNeg)
set_option maxRecDepth 100000 in
set_option maxHeartbeats 1000000 in
theorem zcw_isShapeIn {g : Gm} {G : Gp} {S : Mem} {post : Int32 → Mem → Prop} {k : Nat} {l1 : Int32} {l2 : Int32} (hx : G.2.2.2 = false) (hG : isD G) (h_k : isW G k) (hw : cw_isShapeIn post S k l1 l2) : Z g M_w_isShapeIn 0 0 0 (entryL [.ref k, .int l1, .int l2] (mL M_w_isShapeIn)) [] (S, G) (Qi G post noEx) := by
  unfold cw_isShapeIn at hw
  show Z g M_w_isShapeIn 0 0 0 [some (.ref k), some (.int l1), some (.int l2)] [] (S, G) (Qi G post noEx)
  refine z_aload_n rfl rfl ?_
  refine z_getr (ci := 6) 0 rfl h_k.1 rfl w_151 h_k.2.1 ?_
  refine z_iload_n rfl rfl ?_
  obtain ⟨hc1, hw⟩ := hw
  refine z_aaldI rfl h_k.2.2.1.1 hc1 (h_k.2.2.1.2 _ (vlt hc1)).1 ?_
  refine z_cvi (M' := M_i_isShape) [] hx rfl w_394 cv_i_isShape (h_k.2.2.1.2 _ (vlt hc1)).2 (by decide) rfl rfl rfl rfl (zci_isShape hx hG (h_k.2.2.1.2 _ (vlt hc1)).2 hw) ?_ (fun _ _ hf => hf.elim)
  clear hw
  intro r1 S1 hw
  refine z_if_eq rfl (fun hq => ?_) (fun hq => ?_)
  · replace hw := hw.1 hq
    refine z_iconst 0 rfl rfl ?_
    exact z_zret rfl rfl (by decide) rfl rfl (Or.inl ⟨_, _, rfl, rfl, hw⟩)
  · replace hw := hw.2 hq
    refine z_aload_n rfl rfl ?_
    refine z_iload_n rfl rfl ?_
    refine z_iload_n rfl rfl ?_
    refine z_cvi (M' := M_w_isIn) [.int l1, .int l2] hx rfl w_378 cv_w_isIn h_k.1 (by decide) rfl rfl rfl rfl (zcw_isIn hx hG h_k hw) ?_ (fun _ _ hf => hf.elim)
    clear hw
    intro r2 S2 hw
    refine z_if_eq rfl (fun hq => ?_) (fun hq => ?_)
    · replace hw := hw.1 hq
      refine z_iconst 0 rfl rfl ?_
      exact z_zret rfl rfl (by decide) rfl rfl (Or.inl ⟨_, _, rfl, rfl, hw⟩)
    · replace hw := hw.2 hq
      refine z_iconst 1 rfl rfl ?_
      refine z_goto rfl ?_
      exact z_zret rfl rfl (by decide) rfl rfl (Or.inl ⟨_, _, rfl, rfl, hw⟩)
def ci_canShift (post : Int32 → Mem → Prop) (S : Mem) (k : Nat) (l1 : Int32) (l2 : Int32) : Prop :=
  ci_keepsLimits (fun r1 S1 =>
   vp_nar .boolean r1 = r1 ∧ post r1 S1) S ((S k 2) + l1) ((S k 3) + l2) (S k 4) (S k 5)
set_option maxRecDepth 100000 in
set_option maxHeartbeats 1000000 in
theorem zci_canShift {g : Gm} {G : Gp} {S : Mem} {post : Int32 → Mem → Prop} {k : Nat} {l1 : Int32} {l2 : Int32} (hx : G.2.2.2 = false) (hG : isD G) (h_k : isI G k) (hw : ci_canShift post S k l1 l2) : Z g M_i_canShift 0 0 0 (entryL [.ref k, .int l1, .int l2] (mL M_i_canShift)) [] (S, G) (Qi G post noEx) := by
  unfold ci_canShift at hw
  show Z g M_i_canShift 0 0 0 [some (.ref k), some (.int l1), some (.int l2)] [] (S, G) (Qi G post noEx)
  refine z_aload_n rfl rfl ?_
  refine z_geti (ci := 5) 2 rfl h_k rfl w_122 ?_
  refine z_iload_n rfl rfl ?_
  refine z_iadd rfl ?_
  refine z_aload_n rfl rfl ?_
  refine z_geti (ci := 5) 3 rfl h_k rfl w_124 ?_
  refine z_iload_n rfl rfl ?_
  refine z_iadd rfl ?_
  refine z_aload_n rfl rfl ?_
  refine z_geti (ci := 5) 4 rfl h_k rfl w_126 ?_
  refine z_aload_n rfl rfl ?_
  refine z_geti (ci := 5) 5 rfl h_k rfl w_128 ?_
  refine z_csi (M' := M_i_keepsLimits) [.int ((S k 2) + l1), .int ((S k 3) + l2), .int (S k 4), .int (S k 5)] hx rfl w_399 cs_i_keepsLimits rfl rfl rfl (zci_keepsLimits hx hG hw) ?_ (fun _ _ hf => hf.elim)
  clear hw
  intro r1 S1 hw
  obtain ⟨hc1, hw⟩ := hw
  exact z_zret rfl rfl (nar_of hc1) rfl rfl (Or.inl ⟨_, _, rfl, rfl, hw⟩)
def ci_shift (post : Mem → Prop) (S : Mem) (k : Nat) (l1 : Int32) (l2 : Int32) : Prop :=
  ∀ S1, S1 = up2 S k 2 ((S k 2) + l1) → ∀ S2, S2 = up2 S1 k 3 ((S1 k 3) + l2) → post S2
set_option maxRecDepth 100000 in
set_option maxHeartbeats 1000000 in
theorem zci_shift {g : Gm} {G : Gp} {S : Mem} {post : Mem → Prop} {k : Nat} {l1 : Int32} {l2 : Int32} (hx : G.2.2.2 = false) (hG : isD G) (h_k : isI G k) (hw : ci_shift post S k l1 l2) : Z g M_i_shift 0 0 0 (entryL [.ref k, .int l1, .int l2] (mL M_i_shift)) [] (S, G) (Qv G post noEx) := by
  unfold ci_shift at hw
  show Z g M_i_shift 0 0 0 [some (.ref k), some (.int l1), some (.int l2)] [] (S, G) (Qv G post noEx)
  refine z_aload_n rfl rfl ?_
  refine z_dup rfl rfl ?_
  refine z_geti (ci := 5) 2 rfl h_k rfl w_122 ?_
  refine z_iload_n rfl rfl ?_
  refine z_iadd rfl ?_
  replace hw := hw _ rfl
  refine z_puti (ci := 5) 2 rfl h_k rfl w_122 rfl rfl rfl ?_
  refine z_aload_n rfl rfl ?_
  refine z_dup rfl rfl ?_
  refine z_geti (ci := 5) 3 rfl h_k rfl w_124 ?_
  refine z_iload_n rfl rfl ?_
  refine z_iadd rfl ?_
  replace hw := hw _ rfl
  refine z_puti (ci := 5) 3 rfl h_k rfl w_124 rfl rfl rfl ?_
  exact z_vret rfl rfl rfl rfl (Or.inl ⟨_, rfl, rfl, hw⟩)
