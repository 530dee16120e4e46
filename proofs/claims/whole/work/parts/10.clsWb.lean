def cw_move_L58 (post : Int32 → Mem → Prop)  : Nat → Mem → Nat → Int32 → Int32 → Int32 → Int32 → Prop
  | 0, _, _, _, _, _, _ => False
  | n + 1, S, k, l1, l2, l3, l4 =>
  (((S k 2) ≤ l4) →
   post 1 S) ∧
  ((¬ (S k 2) ≤ l4) →
   (vp_in l4 12) ∧ cw_isShapeIn (fun r1 S1 =>
    ((r1 = 0) →
     cw_move_L58 post n S1 k l1 l2 l3 (l4 + 1)) ∧
    ((¬ r1 = 0) →
     (vp_in l4 12) ∧ (vp_in (S1 (k + 26) l4.toNatClampNeg) 24) ∧ ci_shift (fun S2 =>
      cw_move_L58 post n S2 k l1 l2 l3 (l4 + 1)) S1 ((k + 2) + (S1 (k + 26) l4.toNatClampNeg).toNatClampNeg) l2 l3)) S k (S (k + 26) l4.toNatClampNeg) l1)
set_option maxRecDepth 100000 in
set_option maxHeartbeats 1000000 in
theorem zcw_move_L58 {g : Gm} {G : Gp} {post : Int32 → Mem → Prop} (hx : G.2.2.2 = false) (hG : isD G) : ∀ (n : Nat) {S : Mem} {k : Nat} {l1 : Int32} {l2 : Int32} {l3 : Int32} {l4 : Int32}  (h_k : isW G k), cw_move_L58 post n S k l1 l2 l3 l4 → Z g M_w_move 0 0 58 [some (.ref k), some (.int l1), some (.int l2), some (.int l3), some (.int l4)] [] (S, G) (Qi G post noEx) := by
  intro n
  induction n with
  | zero =>
    intros
    rename_i hw
    exact hw.elim
  | succ n ih =>
    intro S k l1 l2 l3 l4 h_k hw
    rw [cw_move_L58] at hw
    refine z_iload rfl rfl ?_
    refine z_aload_n rfl rfl ?_
    refine z_geti (ci := 6) 2 rfl h_k.1 rfl w_155 ?_
    refine z_icmp_ge rfl (fun hq => ?_) (fun hq => ?_)
    · replace hw := hw.1 hq
      refine z_iconst 1 rfl rfl ?_
      exact z_zret rfl rfl (by decide) rfl rfl (Or.inl ⟨_, _, rfl, rfl, hw⟩)
    · replace hw := hw.2 hq
      refine z_aload_n rfl rfl ?_
      refine z_aload_n rfl rfl ?_
      refine z_getr (ci := 6) 1 rfl h_k.1 rfl w_153 h_k.2.2.2.1 ?_
      refine z_iload rfl rfl ?_
      obtain ⟨hc1, hw⟩ := hw
      refine z_iald (l4.toNatClampNeg) rfl h_k.2.2.2.2.1 hc1 rfl ?_
      refine z_iload_n rfl rfl ?_
      refine z_cvi (M' := M_w_isShapeIn) [.int (S (k + 26) l4.toNatClampNeg), .int l1] hx rfl w_390 cv_w_isShapeIn h_k.1 (by decide) rfl rfl rfl rfl (zcw_isShapeIn hx hG h_k hw) ?_ (fun _ _ hf => hf.elim)
      clear hw
      intro r1 S1 hw
      refine z_if_eq rfl (fun hq => ?_) (fun hq => ?_)
      · replace hw := hw.1 hq
        refine z_iinc 1 [some (.ref k), some (.int l1), some (.int l2), some (.int l3), some (.int (l4 + 1))] rfl rfl rfl rfl ?_
        refine z_goto rfl ?_
        refine Z.forget' [some (.ref k), some (.int l1), some (.int l2), some (.int l3), some (.int (l4 + 1))] ⟨rfl, ⟨rfl, ⟨rfl, ⟨rfl, ⟨rfl, trivial⟩⟩⟩⟩⟩ ?_
        exact ih h_k hw
      · replace hw := hw.2 hq
        refine z_aload_n rfl rfl ?_
        refine z_getr (ci := 6) 0 rfl h_k.1 rfl w_151 h_k.2.1 ?_
        refine z_aload_n rfl rfl ?_
        refine z_getr (ci := 6) 1 rfl h_k.1 rfl w_153 h_k.2.2.2.1 ?_
        refine z_iload rfl rfl ?_
        obtain ⟨hc2, hw⟩ := hw
        refine z_iald (l4.toNatClampNeg) rfl h_k.2.2.2.2.1 hc2 rfl ?_
        obtain ⟨hc3, hw⟩ := hw
        refine z_aaldI rfl h_k.2.2.1.1 hc3 (h_k.2.2.1.2 _ (vlt hc3)).1 ?_
        refine z_iload_n rfl rfl ?_
        refine z_iload_n rfl rfl ?_
        refine z_cvv (M' := M_i_shift) [.int l2, .int l3] hx rfl w_400 cv_i_shift (h_k.2.2.1.2 _ (vlt hc3)).2 (by decide) rfl rfl rfl rfl (zci_shift hx hG (h_k.2.2.1.2 _ (vlt hc3)).2 hw) ?_ (fun _ _ hf => hf.elim)
        clear hw
        intro S2 hw
        refine z_iinc 1 [some (.ref k), some (.int l1), some (.int l2), some (.int l3), some (.int (l4 + 1))] rfl rfl rfl rfl ?_
        refine z_goto rfl ?_
        refine Z.forget' [some (.ref k), some (.int l1), some (.int l2), some (.int l3), some (.int (l4 + 1))] ⟨rfl, ⟨rfl, ⟨rfl, ⟨rfl, ⟨rfl, trivial⟩⟩⟩⟩⟩ ?_
        exact ih h_k hw
def cw_move_L3 (post : Int32 → Mem → Prop)  : Nat → Mem → Nat → Int32 → Int32 → Int32 → Int32 → Prop
  | 0, _, _, _, _, _, _ => False
  | n + 1, S, k, l1, l2, l3, l4 =>
  (((S k 2) ≤ l4) →
   ∃ n, cw_move_L58 post n S k l1 l2 l3 0) ∧
  ((¬ (S k 2) ≤ l4) →
   (vp_in l4 12) ∧ cw_isShapeIn (fun r1 S1 =>
    ((r1 = 0) →
     cw_move_L3 post n S1 k l1 l2 l3 (l4 + 1)) ∧
    ((¬ r1 = 0) →
     (vp_in l4 12) ∧ (vp_in (S1 (k + 26) l4.toNatClampNeg) 24) ∧ ci_canShift (fun r2 S2 =>
      ((¬ r2 = 0) →
       cw_move_L3 post n S2 k l1 l2 l3 (l4 + 1)) ∧
      ((r2 = 0) →
       post 0 S2)) S1 ((k + 2) + (S1 (k + 26) l4.toNatClampNeg).toNatClampNeg) l2 l3)) S k (S (k + 26) l4.toNatClampNeg) l1)
set_option maxRecDepth 100000 in
set_option maxHeartbeats 1000000 in
theorem zcw_move_L3 {g : Gm} {G : Gp} {post : Int32 → Mem → Prop} (hx : G.2.2.2 = false) (hG : isD G) : ∀ (n : Nat) {S : Mem} {k : Nat} {l1 : Int32} {l2 : Int32} {l3 : Int32} {l4 : Int32}  (h_k : isW G k), cw_move_L3 post n S k l1 l2 l3 l4 → Z g M_w_move 0 0 3 [some (.ref k), some (.int l1), some (.int l2), some (.int l3), some (.int l4)] [] (S, G) (Qi G post noEx) := by
  intro n
  induction n with
  | zero =>
    intros
    rename_i hw
    exact hw.elim
  | succ n ih =>
    intro S k l1 l2 l3 l4 h_k hw
    rw [cw_move_L3] at hw
    refine z_iload rfl rfl ?_
    refine z_aload_n rfl rfl ?_
    refine z_geti (ci := 6) 2 rfl h_k.1 rfl w_155 ?_
    refine z_icmp_ge rfl (fun hq => ?_) (fun hq => ?_)
    · replace hw := hw.1 hq
      refine z_iconst 0 rfl rfl ?_
      refine z_istore [some (.ref k), some (.int l1), some (.int l2), some (.int l3), some (.int 0)] rfl rfl rfl ?_
      refine Z.forget' [some (.ref k), some (.int l1), some (.int l2), some (.int l3), some (.int 0)] ⟨rfl, ⟨rfl, ⟨rfl, ⟨rfl, ⟨rfl, trivial⟩⟩⟩⟩⟩ ?_
      obtain ⟨n, hw⟩ := hw
      exact zcw_move_L58 hx hG n h_k hw
    · replace hw := hw.2 hq
      refine z_aload_n rfl rfl ?_
      refine z_aload_n rfl rfl ?_
      refine z_getr (ci := 6) 1 rfl h_k.1 rfl w_153 h_k.2.2.2.1 ?_
      refine z_iload rfl rfl ?_
      obtain ⟨hc1, hw⟩ := hw
      refine z_iald (l4.toNatClampNeg) rfl h_k.2.2.2.2.1 hc1 rfl ?_
      refine z_iload_n rfl rfl ?_
      refine z_cvi (M' := M_w_isShapeIn) [.int (S (k + 26) l4.toNatClampNeg), .int l1] hx rfl w_390 cv_w_isShapeIn h_k.1 (by decide) rfl rfl rfl rfl (zcw_isShapeIn hx hG h_k hw) ?_ (fun _ _ hf => hf.elim)
      clear hw
      intro r1 S1 hw
      refine z_if_eq rfl (fun hq => ?_) (fun hq => ?_)
      · replace hw := hw.1 hq
        refine z_iinc 1 [some (.ref k), some (.int l1), some (.int l2), some (.int l3), some (.int (l4 + 1))] rfl rfl rfl rfl ?_
        refine z_goto rfl ?_
        refine Z.forget' [some (.ref k), some (.int l1), some (.int l2), some (.int l3), some (.int (l4 + 1))] ⟨rfl, ⟨rfl, ⟨rfl, ⟨rfl, ⟨rfl, trivial⟩⟩⟩⟩⟩ ?_
        exact ih h_k hw
      · replace hw := hw.2 hq
        refine z_aload_n rfl rfl ?_
        refine z_getr (ci := 6) 0 rfl h_k.1 rfl w_151 h_k.2.1 ?_
        refine z_aload_n rfl rfl ?_
        refine z_getr (ci := 6) 1 rfl h_k.1 rfl w_153 h_k.2.2.2.1 ?_
        refine z_iload rfl rfl ?_
        obtain ⟨hc2, hw⟩ := hw
        refine z_iald (l4.toNatClampNeg) rfl h_k.2.2.2.2.1 hc2 rfl ?_
        obtain ⟨hc3, hw⟩ := hw
        refine z_aaldI rfl h_k.2.2.1.1 hc3 (h_k.2.2.1.2 _ (vlt hc3)).1 ?_
        refine z_iload_n rfl rfl ?_
        refine z_iload_n rfl rfl ?_
        refine z_cvi (M' := M_i_canShift) [.int l2, .int l3] hx rfl w_395 cv_i_canShift (h_k.2.2.1.2 _ (vlt hc3)).2 (by decide) rfl rfl rfl rfl (zci_canShift hx hG (h_k.2.2.1.2 _ (vlt hc3)).2 hw) ?_ (fun _ _ hf => hf.elim)
        clear hw
        intro r2 S2 hw
        refine z_if_ne rfl (fun hq => ?_) (fun hq => ?_)
        · replace hw := hw.1 hq
          refine z_iinc 1 [some (.ref k), some (.int l1), some (.int l2), some (.int l3), some (.int (l4 + 1))] rfl rfl rfl rfl ?_
          refine z_goto rfl ?_
          refine Z.forget' [some (.ref k), some (.int l1), some (.int l2), some (.int l3), some (.int (l4 + 1))] ⟨rfl, ⟨rfl, ⟨rfl, ⟨rfl, ⟨rfl, trivial⟩⟩⟩⟩⟩ ?_
          exact ih h_k hw
        · replace hw := hw.2 hq
          refine z_iconst 0 rfl rfl ?_
          exact z_zret rfl rfl (by decide) rfl rfl (Or.inl ⟨_, _, rfl, rfl, hw⟩)
def cw_move (post : Int32 → Mem → Prop) (S : Mem) (k : Nat) (l1 : Int32) (l2 : Int32) (l3 : Int32) : Prop :=
  ∃ n, cw_move_L3 post n S k l1 l2 l3 0
set_option maxRecDepth 100000 in
set_option maxHeartbeats 1000000 in
theorem zcw_move {g : Gm} {G : Gp} {S : Mem} {post : Int32 → Mem → Prop} {k : Nat} {l1 : Int32} {l2 : Int32} {l3 : Int32} (hx : G.2.2.2 = false) (hG : isD G) (h_k : isW G k) (hw : cw_move post S k l1 l2 l3) : Z g M_w_move 0 0 0 (entryL [.ref k, .int l1, .int l2, .int l3] (mL M_w_move)) [] (S, G) (Qi G post noEx) := by
  unfold cw_move at hw
  show Z g M_w_move 0 0 0 [some (.ref k), some (.int l1), some (.int l2), some (.int l3), none] [] (S, G) (Qi G post noEx)
  refine z_iconst 0 rfl rfl ?_
  refine z_istore [some (.ref k), some (.int l1), some (.int l2), some (.int l3), some (.int 0)] rfl rfl rfl ?_
  refine Z.forget' [some (.ref k), some (.int l1), some (.int l2), some (.int l3), some (.int 0)] ⟨rfl, ⟨rfl, ⟨rfl, ⟨rfl, ⟨rfl, trivial⟩⟩⟩⟩⟩ ?_
  obtain ⟨n, hw⟩ := hw
  exact zcw_move_L3 hx hG n h_k hw
def ci_end (post : Int32 → Mem → Prop) (S : Mem) (k : Nat) (l1 : Int32) : Prop :=
  (l1 = 0 → post (S k 2) S) ∧
  (l1 = 1 → post (S k 3) S) ∧
  (l1 = 2 → post ((S k 2) + (S k 4)) S) ∧
  ((l1.toInt < 0 ∨ 2 < l1.toInt) → post ((S k 3) + (S k 5)) S)
set_option maxRecDepth 100000 in
set_option maxHeartbeats 1000000 in
theorem zci_end {g : Gm} {G : Gp} {S : Mem} {post : Int32 → Mem → Prop} {k : Nat} {l1 : Int32} (hx : G.2.2.2 = false) (hG : isD G) (h_k : isI G k) (hw : ci_end post S k l1) : Z g M_i_end 0 0 0 (entryL [.ref k, .int l1] (mL M_i_end)) [] (S, G) (Qi G post noEx) := by
  unfold ci_end at hw
  show Z g M_i_end 0 0 0 [some (.ref k), some (.int l1)] [] (S, G) (Qi G post noEx)
  refine z_iload_n rfl rfl ?_
  by_cases hr : l1.toInt < 0 ∨ 2 < l1.toInt
  · refine z_switch 48 rfl (sw_out hr rfl) ?_
    replace hw := hw.2.2.2 hr
    refine z_aload_n rfl rfl ?_
    refine z_geti (ci := 5) 3 rfl h_k rfl w_124 ?_
    refine z_aload_n rfl rfl ?_
    refine z_geti (ci := 5) 5 rfl h_k rfl w_128 ?_
    refine z_iadd rfl ?_
    exact z_iret rfl rfl rfl rfl (Or.inl ⟨_, _, rfl, rfl, hw⟩)
  · rcases sw_0_2 hr with hq | hq | hq
    · replace hw := hw.1 hq
      refine z_switch 28 rfl (sw_eq hq rfl) ?_
      refine z_aload_n rfl rfl ?_
      refine z_geti (ci := 5) 2 rfl h_k rfl w_122 ?_
      exact z_iret rfl rfl rfl rfl (Or.inl ⟨_, _, rfl, rfl, hw⟩)
    · replace hw := hw.2.1 hq
      refine z_switch 33 rfl (sw_eq hq rfl) ?_
      refine z_aload_n rfl rfl ?_
      refine z_geti (ci := 5) 3 rfl h_k rfl w_124 ?_
      exact z_iret rfl rfl rfl rfl (Or.inl ⟨_, _, rfl, rfl, hw⟩)
    · replace hw := hw.2.2.1 hq
      refine z_switch 38 rfl (sw_eq hq rfl) ?_
      refine z_aload_n rfl rfl ?_
      refine z_geti (ci := 5) 2 rfl h_k rfl w_122 ?_
      refine z_aload_n rfl rfl ?_
      refine z_geti (ci := 5) 4 rfl h_k rfl w_126 ?_
      refine z_iadd rfl ?_
      exact z_iret rfl rfl rfl rfl (Or.inl ⟨_, _, rfl, rfl, hw⟩)
def cw_edge_L31 (post : Int32 → Mem → Prop)  : Nat → Mem → Nat → Int32 → Int32 → Int32 → Int32 → Int32 → Prop
  | 0, _, _, _, _, _, _, _ => False
  | n + 1, S, k, l1, l2, l3, l4, l5 =>
  (((S k 2) ≤ l5) →
   post l4 S) ∧
  ((¬ (S k 2) ≤ l5) →
   (vp_in l5 12) ∧ cw_isShapeIn (fun r1 S1 =>
    ((r1 = 0) →
     cw_edge_L31 post n S1 k l1 l2 l3 l4 (l5 + 1)) ∧
    ((¬ r1 = 0) →
     (vp_in l5 12) ∧ (vp_in (S1 (k + 26) l5.toNatClampNeg) 24) ∧ ci_end (fun r2 S2 =>
      ((l3 = 0) →
       cw_edge_L31 post n S2 k l1 l2 l3 (if l4 < r2 then r2 else l4 : Int32) (l5 + 1)) ∧
      ((¬ l3 = 0) →
       cw_edge_L31 post n S2 k l1 l2 l3 (if r2 < l4 then r2 else l4 : Int32) (l5 + 1))) S1 ((k + 2) + (S1 (k + 26) l5.toNatClampNeg).toNatClampNeg) l2)) S k (S (k + 26) l5.toNatClampNeg) l1)
set_option maxRecDepth 100000 in
set_option maxHeartbeats 1000000 in
theorem zcw_edge_L31 {g : Gm} {G : Gp} {post : Int32 → Mem → Prop} (hx : G.2.2.2 = false) (hG : isD G) : ∀ (n : Nat) {S : Mem} {k : Nat} {l1 : Int32} {l2 : Int32} {l3 : Int32} {l4 : Int32} {l5 : Int32}  (h_k : isW G k), cw_edge_L31 post n S k l1 l2 l3 l4 l5 → Z g M_w_edge 0 0 31 [some (.ref k), some (.int l1), some (.int l2), some (.int l3), some (.int l4), some (.int l5), none] [] (S, G) (Qi G post noEx) := by
  intro n
  induction n with
  | zero =>
    intros
    rename_i hw
    exact hw.elim
  | succ n ih =>
    intro S k l1 l2 l3 l4 l5 h_k hw
    rw [cw_edge_L31] at hw
    refine z_iload rfl rfl ?_
    refine z_aload_n rfl rfl ?_
    refine z_geti (ci := 6) 2 rfl h_k.1 rfl w_155 ?_
    refine z_icmp_ge rfl (fun hq => ?_) (fun hq => ?_)
    · replace hw := hw.1 hq
      refine z_iload rfl rfl ?_
      exact z_iret rfl rfl rfl rfl (Or.inl ⟨_, _, rfl, rfl, hw⟩)
    · replace hw := hw.2 hq
      refine z_aload_n rfl rfl ?_
      refine z_aload_n rfl rfl ?_
      refine z_getr (ci := 6) 1 rfl h_k.1 rfl w_153 h_k.2.2.2.1 ?_
      refine z_iload rfl rfl ?_
      obtain ⟨hc1, hw⟩ := hw
      refine z_iald (l5.toNatClampNeg) rfl h_k.2.2.2.2.1 hc1 rfl ?_
      refine z_iload_n rfl rfl ?_
      refine z_cvi (M' := M_w_isShapeIn) [.int (S (k + 26) l5.toNatClampNeg), .int l1] hx rfl w_390 cv_w_isShapeIn h_k.1 (by decide) rfl rfl rfl rfl (zcw_isShapeIn hx hG h_k hw) ?_ (fun _ _ hf => hf.elim)
      clear hw
      intro r1 S1 hw
      refine z_if_eq rfl (fun hq => ?_) (fun hq => ?_)
      · replace hw := hw.1 hq
        refine z_iinc 1 [some (.ref k), some (.int l1), some (.int l2), some (.int l3), some (.int l4), some (.int (l5 + 1)), none] rfl rfl rfl rfl ?_
        refine z_goto rfl ?_
        refine Z.forget' [some (.ref k), some (.int l1), some (.int l2), some (.int l3), some (.int l4), some (.int (l5 + 1)), none] ⟨rfl, ⟨rfl, ⟨rfl, ⟨rfl, ⟨rfl, ⟨rfl, trivial⟩⟩⟩⟩⟩⟩ ?_
        exact ih h_k hw
      · replace hw := hw.2 hq
        refine z_aload_n rfl rfl ?_
        refine z_getr (ci := 6) 0 rfl h_k.1 rfl w_151 h_k.2.1 ?_
        refine z_aload_n rfl rfl ?_
        refine z_getr (ci := 6) 1 rfl h_k.1 rfl w_153 h_k.2.2.2.1 ?_
        refine z_iload rfl rfl ?_
        obtain ⟨hc2, hw⟩ := hw
        refine z_iald (l5.toNatClampNeg) rfl h_k.2.2.2.2.1 hc2 rfl ?_
        obtain ⟨hc3, hw⟩ := hw
        refine z_aaldI rfl h_k.2.2.1.1 hc3 (h_k.2.2.1.2 _ (vlt hc3)).1 ?_
        refine z_iload_n rfl rfl ?_
        refine z_cvi (M' := M_i_end) [.int l2] hx rfl w_414 cv_i_end (h_k.2.2.1.2 _ (vlt hc3)).2 (by decide) rfl rfl rfl rfl (zci_end hx hG (h_k.2.2.1.2 _ (vlt hc3)).2 hw) ?_ (fun _ _ hf => hf.elim)
        clear hw
        intro r2 S2 hw
        refine z_istore [some (.ref k), some (.int l1), some (.int l2), some (.int l3), some (.int l4), some (.int l5), some (.int r2)] rfl rfl rfl ?_
        refine z_iload_n rfl rfl ?_
        refine z_if_eq rfl (fun hq => ?_) (fun hq => ?_)
        · replace hw := hw.1 hq
          refine z_iload rfl rfl ?_
          refine z_iload rfl rfl ?_
          refine z_max rfl w_421 w_max1 w_math w_max3 rfl ?_
          refine z_istore [some (.ref k), some (.int l1), some (.int l2), some (.int l3), some (.int (if l4 < r2 then r2 else l4 : Int32)), some (.int l5), some (.int r2)] rfl rfl rfl ?_
          refine z_iinc 1 [some (.ref k), some (.int l1), some (.int l2), some (.int l3), some (.int (if l4 < r2 then r2 else l4 : Int32)), some (.int (l5 + 1)), some (.int r2)] rfl rfl rfl rfl ?_
          refine z_goto rfl ?_
          refine Z.forget' [some (.ref k), some (.int l1), some (.int l2), some (.int l3), some (.int (if l4 < r2 then r2 else l4 : Int32)), some (.int (l5 + 1)), none] ⟨rfl, ⟨rfl, ⟨rfl, ⟨rfl, ⟨rfl, ⟨rfl, trivial⟩⟩⟩⟩⟩⟩ ?_
          exact ih h_k hw
        · replace hw := hw.2 hq
          refine z_iload rfl rfl ?_
          refine z_iload rfl rfl ?_
          refine z_min rfl w_418 w_min1 w_math w_min3 rfl ?_
          refine z_goto rfl ?_
          refine z_istore [some (.ref k), some (.int l1), some (.int l2), some (.int l3), some (.int (if r2 < l4 then r2 else l4 : Int32)), some (.int l5), some (.int r2)] rfl rfl rfl ?_
          refine z_iinc 1 [some (.ref k), some (.int l1), some (.int l2), some (.int l3), some (.int (if r2 < l4 then r2 else l4 : Int32)), some (.int (l5 + 1)), some (.int r2)] rfl rfl rfl rfl ?_
          refine z_goto rfl ?_
          refine Z.forget' [some (.ref k), some (.int l1), some (.int l2), some (.int l3), some (.int (if r2 < l4 then r2 else l4 : Int32)), some (.int (l5 + 1)), none] ⟨rfl, ⟨rfl, ⟨rfl, ⟨rfl, ⟨rfl, ⟨rfl, trivial⟩⟩⟩⟩⟩⟩ ?_
          exact ih h_k hw
def cw_edge (post : Int32 → Mem → Prop) (S : Mem) (k : Nat) (l1 : Int32) (l2 : Int32) : Prop :=
  ∃ n, cw_edge_L31 post n S k l1 l2 (if l2 = 0 then 1 else (if l2 = 1 then 1 else 0 : Int32) : Int32) (if (if l2 = 0 then 1 else (if l2 = 1 then 1 else 0 : Int32) : Int32) = 0 then (-2147483648) else 2147483647 : Int32) 0
set_option maxRecDepth 100000 in
set_option maxHeartbeats 1000000 in
theorem zcw_edge {g : Gm} {G : Gp} {S : Mem} {post : Int32 → Mem → Prop} {k : Nat} {l1 : Int32} {l2 : Int32} (hx : G.2.2.2 = false) (hG : isD G) (h_k : isW G k) (hw : cw_edge post S k l1 l2) : Z g M_w_edge 0 0 0 (entryL [.ref k, .int l1, .int l2] (mL M_w_edge)) [] (S, G) (Qi G post noEx) := by
  unfold cw_edge at hw
  show Z g M_w_edge 0 0 0 [some (.ref k), some (.int l1), some (.int l2), none, none, none, none] [] (S, G) (Qi G post noEx)
  refine z_iload_n rfl rfl ?_
  have hj1 : ∀ v : Int32, v = (if l2 = 0 then 1 else (if l2 = 1 then 1 else 0 : Int32) : Int32) → Z g M_w_edge 0 0 14 [some (.ref k), some (.int l1), some (.int l2), none, none, none, none] [.int v] (S, G) (Qi G post noEx) := by
    intro v hv
    subst hv
    refine z_istore_n [some (.ref k), some (.int l1), some (.int l2), some (.int (if l2 = 0 then 1 else (if l2 = 1 then 1 else 0 : Int32) : Int32)), none, none, none] rfl rfl rfl ?_
    refine z_iload_n rfl rfl ?_
    have hj16 : ∀ v : Int32, v = (if (if l2 = 0 then 1 else (if l2 = 1 then 1 else 0 : Int32) : Int32) = 0 then (-2147483648) else 2147483647 : Int32) → Z g M_w_edge 0 0 26 [some (.ref k), some (.int l1), some (.int l2), some (.int (if l2 = 0 then 1 else (if l2 = 1 then 1 else 0 : Int32) : Int32)), none, none, none] [.int v] (S, G) (Qi G post noEx) := by
      intro v hv
      subst hv
      refine z_istore [some (.ref k), some (.int l1), some (.int l2), some (.int (if l2 = 0 then 1 else (if l2 = 1 then 1 else 0 : Int32) : Int32)), some (.int (if (if l2 = 0 then 1 else (if l2 = 1 then 1 else 0 : Int32) : Int32) = 0 then (-2147483648) else 2147483647 : Int32)), none, none] rfl rfl rfl ?_
      refine z_iconst 0 rfl rfl ?_
      refine z_istore [some (.ref k), some (.int l1), some (.int l2), some (.int (if l2 = 0 then 1 else (if l2 = 1 then 1 else 0 : Int32) : Int32)), some (.int (if (if l2 = 0 then 1 else (if l2 = 1 then 1 else 0 : Int32) : Int32) = 0 then (-2147483648) else 2147483647 : Int32)), some (.int 0), none] rfl rfl rfl ?_
      refine Z.forget' [some (.ref k), some (.int l1), some (.int l2), some (.int (if l2 = 0 then 1 else (if l2 = 1 then 1 else 0 : Int32) : Int32)), some (.int (if (if l2 = 0 then 1 else (if l2 = 1 then 1 else 0 : Int32) : Int32) = 0 then (-2147483648) else 2147483647 : Int32)), some (.int 0), none] ⟨rfl, ⟨rfl, ⟨rfl, ⟨rfl, ⟨rfl, ⟨rfl, trivial⟩⟩⟩⟩⟩⟩ ?_
      obtain ⟨n, hw⟩ := hw
      exact zcw_edge_L31 hx hG n h_k hw
    refine z_if_eq rfl (fun hp16 => ?_) (fun hp16 => ?_)
    · refine z_ldc rfl w_413 ?_
      exact hj16 _ (by rw [if_pos hp16])
    · refine z_ldc rfl w_412 ?_
      refine z_goto rfl ?_
      exact hj16 _ (by rw [if_neg hp16])
  refine z_if_eq rfl (fun hp1 => ?_) (fun hp1 => ?_)
  · refine z_iconst 1 rfl rfl ?_
    refine z_goto rfl ?_
    exact hj1 _ (by rw [if_pos hp1])
  · refine z_iload_n rfl rfl ?_
    refine z_iconst 1 rfl rfl ?_
    refine z_icmp_ne rfl (fun hp6 => ?_) (fun hp6 => ?_)
    · refine z_iconst 0 rfl rfl ?_
      exact hj1 _ (by rw [if_neg hp1, if_neg hp6])
    · refine z_iconst 1 rfl rfl ?_
      refine z_goto rfl ?_
      exact hj1 _ (by rw [if_neg hp1, if_pos hp6])
def ci_scaledPlace (post : Int32 → Mem → Prop) (S : Mem) (l0 : Int32) (l1 : Int32) (l2 : Int32) (l3 : Int32) : Prop :=
  (¬ l3 = 0) ∧ post (l1 + (((l0 - l1) * l2) / l3)) S
set_option maxRecDepth 100000 in
set_option maxHeartbeats 1000000 in
theorem zci_scaledPlace {g : Gm} {G : Gp} {S : Mem} {post : Int32 → Mem → Prop} {l0 : Int32} {l1 : Int32} {l2 : Int32} {l3 : Int32} (hx : G.2.2.2 = false) (hG : isD G) (hw : ci_scaledPlace post S l0 l1 l2 l3) : Z g M_i_scaledPlace 0 0 0 (entryL [.int l0, .int l1, .int l2, .int l3] (mL M_i_scaledPlace)) [] (S, G) (Qi G post noEx) := by
  unfold ci_scaledPlace at hw
  show Z g M_i_scaledPlace 0 0 0 [some (.int l0), some (.int l1), some (.int l2), some (.int l3)] [] (S, G) (Qi G post noEx)
  refine z_iload_n rfl rfl ?_
  refine z_iload_n rfl rfl ?_
  refine z_iload_n rfl rfl ?_
  refine z_isub rfl ?_
  refine z_iload_n rfl rfl ?_
  refine z_imul rfl ?_
  refine z_iload_n rfl rfl ?_
  obtain ⟨hc1, hw⟩ := hw
  refine z_idiv rfl hc1 ?_
  refine z_iadd rfl ?_
  exact z_iret rfl rfl rfl rfl (Or.inl ⟨_, _, rfl, rfl, hw⟩)
def ci_scaledLength (post : Int32 → Mem → Prop) (S : Mem) (l0 : Int32) (l1 : Int32) (l2 : Int32) : Prop :=
  (¬ l2 = 0) ∧ post (if 1 ≤ ((l0 * l1) / l2) then ((l0 * l1) / l2) else 1 : Int32) S
set_option maxRecDepth 100000 in
set_option maxHeartbeats 1000000 in
theorem zci_scaledLength {g : Gm} {G : Gp} {S : Mem} {post : Int32 → Mem → Prop} {l0 : Int32} {l1 : Int32} {l2 : Int32} (hx : G.2.2.2 = false) (hG : isD G) (hw : ci_scaledLength post S l0 l1 l2) : Z g M_i_scaledLength 0 0 0 (entryL [.int l0, .int l1, .int l2] (mL M_i_scaledLength)) [] (S, G) (Qi G post noEx) := by
  unfold ci_scaledLength at hw
  show Z g M_i_scaledLength 0 0 0 [some (.int l0), some (.int l1), some (.int l2), none] [] (S, G) (Qi G post noEx)
  refine z_iload_n rfl rfl ?_
  refine z_iload_n rfl rfl ?_
  refine z_imul rfl ?_
  refine z_iload_n rfl rfl ?_
  obtain ⟨hc1, hw⟩ := hw
  refine z_idiv rfl hc1 ?_
  refine z_istore_n [some (.int l0), some (.int l1), some (.int l2), some (.int ((l0 * l1) / l2))] rfl rfl rfl ?_
  refine z_iload_n rfl rfl ?_
  refine z_iconst 1 rfl rfl ?_
  have hj8 : ∀ v : Int32, v = (if 1 ≤ ((l0 * l1) / l2) then ((l0 * l1) / l2) else 1 : Int32) → Z g M_i_scaledLength 0 0 16 [some (.int l0), some (.int l1), some (.int l2), some (.int ((l0 * l1) / l2))] [.int v] (S, G) (Qi G post noEx) := by
    intro v hv
    subst hv
    exact z_iret rfl rfl rfl rfl (Or.inl ⟨_, _, rfl, rfl, hw⟩)
  refine z_icmp_ge rfl (fun hp8 => ?_) (fun hp8 => ?_)
  · refine z_iload_n rfl rfl ?_
    exact hj8 _ (by rw [if_pos hp8])
  · refine z_iconst 1 rfl rfl ?_
    refine z_goto rfl ?_
    exact hj8 _ (by rw [if_neg hp8])
def ci_canStretch (post : Int32 → Mem → Prop) (S : Mem) (k : Nat) (l1 : Int32) (l2 : Int32) (l3 : Int32) (l4 : Int32) : Prop :=
  ci_scaledPlace (fun r1 S1 =>
   ci_scaledPlace (fun r2 S2 =>
    ci_scaledLength (fun r3 S3 =>
     ci_scaledLength (fun r4 S4 =>
      ci_keepsLimits (fun r5 S5 =>
       vp_nar .boolean r5 = r5 ∧ post r5 S5) S4 r1 r2 r3 r4) S3 (S3 k 5) l3 l4) S2 (S2 k 4) l3 l4) S1 (S1 k 3) l2 l3 l4) S (S k 2) l1 l3 l4
set_option maxRecDepth 100000 in
set_option maxHeartbeats 1000000 in
theorem zci_canStretch {g : Gm} {G : Gp} {S : Mem} {post : Int32 → Mem → Prop} {k : Nat} {l1 : Int32} {l2 : Int32} {l3 : Int32} {l4 : Int32} (hx : G.2.2.2 = false) (hG : isD G) (h_k : isI G k) (hw : ci_canStretch post S k l1 l2 l3 l4) : Z g M_i_canStretch 0 0 0 (entryL [.ref k, .int l1, .int l2, .int l3, .int l4] (mL M_i_canStretch)) [] (S, G) (Qi G post noEx) := by
  unfold ci_canStretch at hw
  show Z g M_i_canStretch 0 0 0 [some (.ref k), some (.int l1), some (.int l2), some (.int l3), some (.int l4)] [] (S, G) (Qi G post noEx)
  refine z_aload_n rfl rfl ?_
  refine z_geti (ci := 5) 2 rfl h_k rfl w_122 ?_
  refine z_iload_n rfl rfl ?_
  refine z_iload_n rfl rfl ?_
  refine z_iload rfl rfl ?_
  refine z_csi (M' := M_i_scaledPlace) [.int (S k 2), .int l1, .int l3, .int l4] hx rfl w_428 cs_i_scaledPlace rfl rfl rfl (zci_scaledPlace hx hG hw) ?_ (fun _ _ hf => hf.elim)
  clear hw
  intro r1 S1 hw
  refine z_aload_n rfl rfl ?_
  refine z_geti (ci := 5) 3 rfl h_k rfl w_124 ?_
  refine z_iload_n rfl rfl ?_
  refine z_iload_n rfl rfl ?_
  refine z_iload rfl rfl ?_
  refine z_csi (M' := M_i_scaledPlace) [.int (S1 k 3), .int l2, .int l3, .int l4] hx rfl w_428 cs_i_scaledPlace rfl rfl rfl (zci_scaledPlace hx hG hw) ?_ (fun _ _ hf => hf.elim)
  clear hw
  intro r2 S2 hw
  refine z_aload_n rfl rfl ?_
  refine z_geti (ci := 5) 4 rfl h_k rfl w_126 ?_
  refine z_iload_n rfl rfl ?_
  refine z_iload rfl rfl ?_
  refine z_csi (M' := M_i_scaledLength) [.int (S2 k 4), .int l3, .int l4] hx rfl w_431 cs_i_scaledLength rfl rfl rfl (zci_scaledLength hx hG hw) ?_ (fun _ _ hf => hf.elim)
  clear hw
  intro r3 S3 hw
  refine z_aload_n rfl rfl ?_
  refine z_geti (ci := 5) 5 rfl h_k rfl w_128 ?_
  refine z_iload_n rfl rfl ?_
  refine z_iload rfl rfl ?_
  refine z_csi (M' := M_i_scaledLength) [.int (S3 k 5), .int l3, .int l4] hx rfl w_431 cs_i_scaledLength rfl rfl rfl (zci_scaledLength hx hG hw) ?_ (fun _ _ hf => hf.elim)
  clear hw
  intro r4 S4 hw
  refine z_csi (M' := M_i_keepsLimits) [.int r1, .int r2, .int r3, .int r4] hx rfl w_399 cs_i_keepsLimits rfl rfl rfl (zci_keepsLimits hx hG hw) ?_ (fun _ _ hf => hf.elim)
  clear hw
  intro r5 S5 hw
  obtain ⟨hc1, hw⟩ := hw
  exact z_zret rfl rfl (nar_of hc1) rfl rfl (Or.inl ⟨_, _, rfl, rfl, hw⟩)
def ci_stretch (post : Mem → Prop) (S : Mem) (k : Nat) (l1 : Int32) (l2 : Int32) (l3 : Int32) (l4 : Int32) : Prop :=
  ci_scaledPlace (fun r1 S1 =>
   ci_scaledPlace (fun r2 S2 =>
    ci_scaledLength (fun r3 S3 =>
     ci_scaledLength (fun r4 S4 =>
      ci_setBox (fun S5 =>
       post S5) S4 k r1 r2 r3 r4) S3 (S3 k 5) l3 l4) S2 (S2 k 4) l3 l4) S1 (S1 k 3) l2 l3 l4) S (S k 2) l1 l3 l4
set_option maxRecDepth 100000 in
set_option maxHeartbeats 1000000 in
theorem zci_stretch {g : Gm} {G : Gp} {S : Mem} {post : Mem → Prop} {k : Nat} {l1 : Int32} {l2 : Int32} {l3 : Int32} {l4 : Int32} (hx : G.2.2.2 = false) (hG : isD G) (h_k : isI G k) (hw : ci_stretch post S k l1 l2 l3 l4) : Z g M_i_stretch 0 0 0 (entryL [.ref k, .int l1, .int l2, .int l3, .int l4] (mL M_i_stretch)) [] (S, G) (Qv G post noEx) := by
  unfold ci_stretch at hw
  show Z g M_i_stretch 0 0 0 [some (.ref k), some (.int l1), some (.int l2), some (.int l3), some (.int l4)] [] (S, G) (Qv G post noEx)
  refine z_aload_n rfl rfl ?_
  refine z_aload_n rfl rfl ?_
  refine z_geti (ci := 5) 2 rfl h_k rfl w_122 ?_
  refine z_iload_n rfl rfl ?_
  refine z_iload_n rfl rfl ?_
  refine z_iload rfl rfl ?_
  refine z_csi (M' := M_i_scaledPlace) [.int (S k 2), .int l1, .int l3, .int l4] hx rfl w_428 cs_i_scaledPlace rfl rfl rfl (zci_scaledPlace hx hG hw) ?_ (fun _ _ hf => hf.elim)
  clear hw
  intro r1 S1 hw
  refine z_aload_n rfl rfl ?_
  refine z_geti (ci := 5) 3 rfl h_k rfl w_124 ?_
  refine z_iload_n rfl rfl ?_
  refine z_iload_n rfl rfl ?_
  refine z_iload rfl rfl ?_
  refine z_csi (M' := M_i_scaledPlace) [.int (S1 k 3), .int l2, .int l3, .int l4] hx rfl w_428 cs_i_scaledPlace rfl rfl rfl (zci_scaledPlace hx hG hw) ?_ (fun _ _ hf => hf.elim)
  clear hw
  intro r2 S2 hw
  refine z_aload_n rfl rfl ?_
  refine z_geti (ci := 5) 4 rfl h_k rfl w_126 ?_
  refine z_iload_n rfl rfl ?_
  refine z_iload rfl rfl ?_
  refine z_csi (M' := M_i_scaledLength) [.int (S2 k 4), .int l3, .int l4] hx rfl w_431 cs_i_scaledLength rfl rfl rfl (zci_scaledLength hx hG hw) ?_ (fun _ _ hf => hf.elim)
  clear hw
  intro r3 S3 hw
  refine z_aload_n rfl rfl ?_
  refine z_geti (ci := 5) 5 rfl h_k rfl w_128 ?_
  refine z_iload_n rfl rfl ?_
  refine z_iload rfl rfl ?_
  refine z_csi (M' := M_i_scaledLength) [.int (S3 k 5), .int l3, .int l4] hx rfl w_431 cs_i_scaledLength rfl rfl rfl (zci_scaledLength hx hG hw) ?_ (fun _ _ hf => hf.elim)
  clear hw
  intro r4 S4 hw
  refine z_cvv (M' := M_i_setBox) [.int r1, .int r2, .int r3, .int r4] hx rfl w_438 cv_i_setBox h_k (by decide) rfl rfl rfl rfl (zci_setBox hx hG h_k hw) ?_ (fun _ _ hf => hf.elim)
  clear hw
  intro S5 hw
  exact z_vret rfl rfl rfl rfl (Or.inl ⟨_, rfl, rfl, hw⟩)
def cw_scale_L78 (post : Int32 → Mem → Prop)  : Nat → Mem → Nat → Int32 → Int32 → Int32 → Int32 → Int32 → Int32 → Prop
  | 0, _, _, _, _, _, _, _, _ => False
  | n + 1, S, k, l1, l2, l3, l4, l5, l6 =>
  (((S k 2) ≤ l6) →
   post 1 S) ∧
  ((¬ (S k 2) ≤ l6) →
   (vp_in l6 12) ∧ cw_isShapeIn (fun r1 S1 =>
    ((r1 = 0) →
     cw_scale_L78 post n S1 k l1 l2 l3 l4 l5 (l6 + 1)) ∧
    ((¬ r1 = 0) →
     (vp_in l6 12) ∧ (vp_in (S1 (k + 26) l6.toNatClampNeg) 24) ∧ ci_stretch (fun S2 =>
      cw_scale_L78 post n S2 k l1 l2 l3 l4 l5 (l6 + 1)) S1 ((k + 2) + (S1 (k + 26) l6.toNatClampNeg).toNatClampNeg) l4 l5 l2 l3)) S k (S (k + 26) l6.toNatClampNeg) l1)
set_option maxRecDepth 100000 in
set_option maxHeartbeats 1000000 in
theorem zcw_scale_L78 {g : Gm} {G : Gp} {post : Int32 → Mem → Prop} (hx : G.2.2.2 = false) (hG : isD G) : ∀ (n : Nat) {S : Mem} {k : Nat} {l1 : Int32} {l2 : Int32} {l3 : Int32} {l4 : Int32} {l5 : Int32} {l6 : Int32}  (h_k : isW G k), cw_scale_L78 post n S k l1 l2 l3 l4 l5 l6 → Z g M_w_scale 0 0 78 [some (.ref k), some (.int l1), some (.int l2), some (.int l3), some (.int l4), some (.int l5), some (.int l6)] [] (S, G) (Qi G post noEx) := by
  intro n
  induction n with
  | zero =>
    intros
    rename_i hw
    exact hw.elim
  | succ n ih =>
    intro S k l1 l2 l3 l4 l5 l6 h_k hw
    rw [cw_scale_L78] at hw
    refine z_iload rfl rfl ?_
    refine z_aload_n rfl rfl ?_
    refine z_geti (ci := 6) 2 rfl h_k.1 rfl w_155 ?_
    refine z_icmp_ge rfl (fun hq => ?_) (fun hq => ?_)
    · replace hw := hw.1 hq
      refine z_iconst 1 rfl rfl ?_
      exact z_zret rfl rfl (by decide) rfl rfl (Or.inl ⟨_, _, rfl, rfl, hw⟩)
    · replace hw := hw.2 hq
      refine z_aload_n rfl rfl ?_
      refine z_aload_n rfl rfl ?_
      refine z_getr (ci := 6) 1 rfl h_k.1 rfl w_153 h_k.2.2.2.1 ?_
      refine z_iload rfl rfl ?_
      obtain ⟨hc1, hw⟩ := hw
      refine z_iald (l6.toNatClampNeg) rfl h_k.2.2.2.2.1 hc1 rfl ?_
      refine z_iload_n rfl rfl ?_
      refine z_cvi (M' := M_w_isShapeIn) [.int (S (k + 26) l6.toNatClampNeg), .int l1] hx rfl w_390 cv_w_isShapeIn h_k.1 (by decide) rfl rfl rfl rfl (zcw_isShapeIn hx hG h_k hw) ?_ (fun _ _ hf => hf.elim)
      clear hw
      intro r1 S1 hw
      refine z_if_eq rfl (fun hq => ?_) (fun hq => ?_)
      · replace hw := hw.1 hq
        refine z_iinc 1 [some (.ref k), some (.int l1), some (.int l2), some (.int l3), some (.int l4), some (.int l5), some (.int (l6 + 1))] rfl rfl rfl rfl ?_
        refine z_goto rfl ?_
        refine Z.forget' [some (.ref k), some (.int l1), some (.int l2), some (.int l3), some (.int l4), some (.int l5), some (.int (l6 + 1))] ⟨rfl, ⟨rfl, ⟨rfl, ⟨rfl, ⟨rfl, ⟨rfl, ⟨rfl, trivial⟩⟩⟩⟩⟩⟩⟩ ?_
        exact ih h_k hw
      · replace hw := hw.2 hq
        refine z_aload_n rfl rfl ?_
        refine z_getr (ci := 6) 0 rfl h_k.1 rfl w_151 h_k.2.1 ?_
        refine z_aload_n rfl rfl ?_
        refine z_getr (ci := 6) 1 rfl h_k.1 rfl w_153 h_k.2.2.2.1 ?_
        refine z_iload rfl rfl ?_
        obtain ⟨hc2, hw⟩ := hw
        refine z_iald (l6.toNatClampNeg) rfl h_k.2.2.2.2.1 hc2 rfl ?_
        obtain ⟨hc3, hw⟩ := hw
        refine z_aaldI rfl h_k.2.2.1.1 hc3 (h_k.2.2.1.2 _ (vlt hc3)).1 ?_
        refine z_iload rfl rfl ?_
        refine z_iload rfl rfl ?_
        refine z_iload_n rfl rfl ?_
        refine z_iload_n rfl rfl ?_
        refine z_cvv (M' := M_i_stretch) [.int l4, .int l5, .int l2, .int l3] hx rfl w_434 cv_i_stretch (h_k.2.2.1.2 _ (vlt hc3)).2 (by decide) rfl rfl rfl rfl (zci_stretch hx hG (h_k.2.2.1.2 _ (vlt hc3)).2 hw) ?_ (fun _ _ hf => hf.elim)
        clear hw
        intro S2 hw
        refine z_iinc 1 [some (.ref k), some (.int l1), some (.int l2), some (.int l3), some (.int l4), some (.int l5), some (.int (l6 + 1))] rfl rfl rfl rfl ?_
        refine z_goto rfl ?_
        refine Z.forget' [some (.ref k), some (.int l1), some (.int l2), some (.int l3), some (.int l4), some (.int l5), some (.int (l6 + 1))] ⟨rfl, ⟨rfl, ⟨rfl, ⟨rfl, ⟨rfl, ⟨rfl, ⟨rfl, trivial⟩⟩⟩⟩⟩⟩⟩ ?_
        exact ih h_k hw
def cw_scale_L19 (post : Int32 → Mem → Prop)  : Nat → Mem → Nat → Int32 → Int32 → Int32 → Int32 → Int32 → Int32 → Prop
  | 0, _, _, _, _, _, _, _, _ => False
  | n + 1, S, k, l1, l2, l3, l4, l5, l6 =>
  (((S k 2) ≤ l6) →
   ∃ n, cw_scale_L78 post n S k l1 l2 l3 l4 l5 0) ∧
  ((¬ (S k 2) ≤ l6) →
   (vp_in l6 12) ∧ cw_isShapeIn (fun r1 S1 =>
    ((r1 = 0) →
     cw_scale_L19 post n S1 k l1 l2 l3 l4 l5 (l6 + 1)) ∧
    ((¬ r1 = 0) →
     (vp_in l6 12) ∧ (vp_in (S1 (k + 26) l6.toNatClampNeg) 24) ∧ ci_canStretch (fun r2 S2 =>
      ((¬ r2 = 0) →
       cw_scale_L19 post n S2 k l1 l2 l3 l4 l5 (l6 + 1)) ∧
      ((r2 = 0) →
       post 0 S2)) S1 ((k + 2) + (S1 (k + 26) l6.toNatClampNeg).toNatClampNeg) l4 l5 l2 l3)) S k (S (k + 26) l6.toNatClampNeg) l1)
set_option maxRecDepth 100000 in
set_option maxHeartbeats 1000000 in
theorem zcw_scale_L19 {g : Gm} {G : Gp} {post : Int32 → Mem → Prop} (hx : G.2.2.2 = false) (hG : isD G) : ∀ (n : Nat) {S : Mem} {k : Nat} {l1 : Int32} {l2 : Int32} {l3 : Int32} {l4 : Int32} {l5 : Int32} {l6 : Int32}  (h_k : isW G k), cw_scale_L19 post n S k l1 l2 l3 l4 l5 l6 → Z g M_w_scale 0 0 19 [some (.ref k), some (.int l1), some (.int l2), some (.int l3), some (.int l4), some (.int l5), some (.int l6)] [] (S, G) (Qi G post noEx) := by
  intro n
  induction n with
  | zero =>
    intros
    rename_i hw
    exact hw.elim
  | succ n ih =>
    intro S k l1 l2 l3 l4 l5 l6 h_k hw
    rw [cw_scale_L19] at hw
    refine z_iload rfl rfl ?_
    refine z_aload_n rfl rfl ?_
    refine z_geti (ci := 6) 2 rfl h_k.1 rfl w_155 ?_
    refine z_icmp_ge rfl (fun hq => ?_) (fun hq => ?_)
    · replace hw := hw.1 hq
      refine z_iconst 0 rfl rfl ?_
      refine z_istore [some (.ref k), some (.int l1), some (.int l2), some (.int l3), some (.int l4), some (.int l5), some (.int 0)] rfl rfl rfl ?_
      refine Z.forget' [some (.ref k), some (.int l1), some (.int l2), some (.int l3), some (.int l4), some (.int l5), some (.int 0)] ⟨rfl, ⟨rfl, ⟨rfl, ⟨rfl, ⟨rfl, ⟨rfl, ⟨rfl, trivial⟩⟩⟩⟩⟩⟩⟩ ?_
      obtain ⟨n, hw⟩ := hw
      exact zcw_scale_L78 hx hG n h_k hw
    · replace hw := hw.2 hq
      refine z_aload_n rfl rfl ?_
      refine z_aload_n rfl rfl ?_
      refine z_getr (ci := 6) 1 rfl h_k.1 rfl w_153 h_k.2.2.2.1 ?_
      refine z_iload rfl rfl ?_
      obtain ⟨hc1, hw⟩ := hw
      refine z_iald (l6.toNatClampNeg) rfl h_k.2.2.2.2.1 hc1 rfl ?_
      refine z_iload_n rfl rfl ?_
      refine z_cvi (M' := M_w_isShapeIn) [.int (S (k + 26) l6.toNatClampNeg), .int l1] hx rfl w_390 cv_w_isShapeIn h_k.1 (by decide) rfl rfl rfl rfl (zcw_isShapeIn hx hG h_k hw) ?_ (fun _ _ hf => hf.elim)
      clear hw
      intro r1 S1 hw
      refine z_if_eq rfl (fun hq => ?_) (fun hq => ?_)
      · replace hw := hw.1 hq
        refine z_iinc 1 [some (.ref k), some (.int l1), some (.int l2), some (.int l3), some (.int l4), some (.int l5), some (.int (l6 + 1))] rfl rfl rfl rfl ?_
        refine z_goto rfl ?_
        refine Z.forget' [some (.ref k), some (.int l1), some (.int l2), some (.int l3), some (.int l4), some (.int l5), some (.int (l6 + 1))] ⟨rfl, ⟨rfl, ⟨rfl, ⟨rfl, ⟨rfl, ⟨rfl, ⟨rfl, trivial⟩⟩⟩⟩⟩⟩⟩ ?_
        exact ih h_k hw
      · replace hw := hw.2 hq
        refine z_aload_n rfl rfl ?_
        refine z_getr (ci := 6) 0 rfl h_k.1 rfl w_151 h_k.2.1 ?_
        refine z_aload_n rfl rfl ?_
        refine z_getr (ci := 6) 1 rfl h_k.1 rfl w_153 h_k.2.2.2.1 ?_
        refine z_iload rfl rfl ?_
        obtain ⟨hc2, hw⟩ := hw
        refine z_iald (l6.toNatClampNeg) rfl h_k.2.2.2.2.1 hc2 rfl ?_
        obtain ⟨hc3, hw⟩ := hw
        refine z_aaldI rfl h_k.2.2.1.1 hc3 (h_k.2.2.1.2 _ (vlt hc3)).1 ?_
        refine z_iload rfl rfl ?_
        refine z_iload rfl rfl ?_
        refine z_iload_n rfl rfl ?_
        refine z_iload_n rfl rfl ?_
        refine z_cvi (M' := M_i_canStretch) [.int l4, .int l5, .int l2, .int l3] hx rfl w_424 cv_i_canStretch (h_k.2.2.1.2 _ (vlt hc3)).2 (by decide) rfl rfl rfl rfl (zci_canStretch hx hG (h_k.2.2.1.2 _ (vlt hc3)).2 hw) ?_ (fun _ _ hf => hf.elim)
        clear hw
        intro r2 S2 hw
        refine z_if_ne rfl (fun hq => ?_) (fun hq => ?_)
        · replace hw := hw.1 hq
          refine z_iinc 1 [some (.ref k), some (.int l1), some (.int l2), some (.int l3), some (.int l4), some (.int l5), some (.int (l6 + 1))] rfl rfl rfl rfl ?_
          refine z_goto rfl ?_
          refine Z.forget' [some (.ref k), some (.int l1), some (.int l2), some (.int l3), some (.int l4), some (.int l5), some (.int (l6 + 1))] ⟨rfl, ⟨rfl, ⟨rfl, ⟨rfl, ⟨rfl, ⟨rfl, ⟨rfl, trivial⟩⟩⟩⟩⟩⟩⟩ ?_
          exact ih h_k hw
        · replace hw := hw.2 hq
          refine z_iconst 0 rfl rfl ?_
          exact z_zret rfl rfl (by decide) rfl rfl (Or.inl ⟨_, _, rfl, rfl, hw⟩)
def cw_scale (post : Int32 → Mem → Prop) (S : Mem) (k : Nat) (l1 : Int32) (l2 : Int32) (l3 : Int32) : Prop :=
  cw_edge (fun r1 S1 =>
   cw_edge (fun r2 S2 =>
    ∃ n, cw_scale_L19 post n S2 k l1 l2 l3 r1 r2 0) S1 k l1 1) S k l1 0
set_option maxRecDepth 100000 in
set_option maxHeartbeats 1000000 in
theorem zcw_scale {g : Gm} {G : Gp} {S : Mem} {post : Int32 → Mem → Prop} {k : Nat} {l1 : Int32} {l2 : Int32} {l3 : Int32} (hx : G.2.2.2 = false) (hG : isD G) (h_k : isW G k) (hw : cw_scale post S k l1 l2 l3) : Z g M_w_scale 0 0 0 (entryL [.ref k, .int l1, .int l2, .int l3] (mL M_w_scale)) [] (S, G) (Qi G post noEx) := by
  unfold cw_scale at hw
  show Z g M_w_scale 0 0 0 [some (.ref k), some (.int l1), some (.int l2), some (.int l3), none, none, none] [] (S, G) (Qi G post noEx)
  refine z_aload_n rfl rfl ?_
  refine z_iload_n rfl rfl ?_
  refine z_iconst 0 rfl rfl ?_
  refine z_cvi (M' := M_w_edge) [.int l1, .int 0] hx rfl w_408 cv_w_edge h_k.1 (by decide) rfl rfl rfl rfl (zcw_edge hx hG h_k hw) ?_ (fun _ _ hf => hf.elim)
  clear hw
  intro r1 S1 hw
  refine z_istore [some (.ref k), some (.int l1), some (.int l2), some (.int l3), some (.int r1), none, none] rfl rfl rfl ?_
  refine z_aload_n rfl rfl ?_
  refine z_iload_n rfl rfl ?_
  refine z_iconst 1 rfl rfl ?_
  refine z_cvi (M' := M_w_edge) [.int l1, .int 1] hx rfl w_408 cv_w_edge h_k.1 (by decide) rfl rfl rfl rfl (zcw_edge hx hG h_k hw) ?_ (fun _ _ hf => hf.elim)
  clear hw
  intro r2 S2 hw
  refine z_istore [some (.ref k), some (.int l1), some (.int l2), some (.int l3), some (.int r1), some (.int r2), none] rfl rfl rfl ?_
  refine z_iconst 0 rfl rfl ?_
  refine z_istore [some (.ref k), some (.int l1), some (.int l2), some (.int l3), some (.int r1), some (.int r2), some (.int 0)] rfl rfl rfl ?_
  refine Z.forget' [some (.ref k), some (.int l1), some (.int l2), some (.int l3), some (.int r1), some (.int r2), some (.int 0)] ⟨rfl, ⟨rfl, ⟨rfl, ⟨rfl, ⟨rfl, ⟨rfl, ⟨rfl, trivial⟩⟩⟩⟩⟩⟩⟩ ?_
  obtain ⟨n, hw⟩ := hw
  exact zcw_scale_L19 hx hG n h_k hw
def cw_paint_L2 (post : Int32 → Mem → Prop)  : Nat → Mem → Nat → Int32 → Int32 → Int32 → Prop
  | 0, _, _, _, _, _ => False
  | n + 1, S, k, l1, l2, l3 =>
  (((S k 2) ≤ l3) →
   post 1 S) ∧
  ((¬ (S k 2) ≤ l3) →
   (vp_in l3 12) ∧ cw_isShapeIn (fun r1 S1 =>
    ((r1 = 0) →
     cw_paint_L2 post n S1 k l1 l2 (l3 + 1)) ∧
    ((¬ r1 = 0) →
     (vp_in l3 12) ∧ (vp_in (S1 (k + 26) l3.toNatClampNeg) 24) ∧ ∀ S2, S2 = up2 S1 ((k + 2) + (S1 (k + 26) l3.toNatClampNeg).toNatClampNeg) 6 l2 → cw_paint_L2 post n S2 k l1 l2 (l3 + 1))) S k (S (k + 26) l3.toNatClampNeg) l1)
set_option maxRecDepth 100000 in
set_option maxHeartbeats 1000000 in
theorem zcw_paint_L2 {g : Gm} {G : Gp} {post : Int32 → Mem → Prop} (hx : G.2.2.2 = false) (hG : isD G) : ∀ (n : Nat) {S : Mem} {k : Nat} {l1 : Int32} {l2 : Int32} {l3 : Int32}  (h_k : isW G k), cw_paint_L2 post n S k l1 l2 l3 → Z g M_w_paint 0 0 2 [some (.ref k), some (.int l1), some (.int l2), some (.int l3)] [] (S, G) (Qi G post noEx) := by
  intro n
  induction n with
  | zero =>
    intros
    rename_i hw
    exact hw.elim
  | succ n ih =>
    intro S k l1 l2 l3 h_k hw
    rw [cw_paint_L2] at hw
    refine z_iload_n rfl rfl ?_
    refine z_aload_n rfl rfl ?_
    refine z_geti (ci := 6) 2 rfl h_k.1 rfl w_155 ?_
    refine z_icmp_ge rfl (fun hq => ?_) (fun hq => ?_)
    · replace hw := hw.1 hq
      refine z_iconst 1 rfl rfl ?_
      exact z_zret rfl rfl (by decide) rfl rfl (Or.inl ⟨_, _, rfl, rfl, hw⟩)
    · replace hw := hw.2 hq
      refine z_aload_n rfl rfl ?_
      refine z_aload_n rfl rfl ?_
      refine z_getr (ci := 6) 1 rfl h_k.1 rfl w_153 h_k.2.2.2.1 ?_
      refine z_iload_n rfl rfl ?_
      obtain ⟨hc1, hw⟩ := hw
      refine z_iald (l3.toNatClampNeg) rfl h_k.2.2.2.2.1 hc1 rfl ?_
      refine z_iload_n rfl rfl ?_
      refine z_cvi (M' := M_w_isShapeIn) [.int (S (k + 26) l3.toNatClampNeg), .int l1] hx rfl w_390 cv_w_isShapeIn h_k.1 (by decide) rfl rfl rfl rfl (zcw_isShapeIn hx hG h_k hw) ?_ (fun _ _ hf => hf.elim)
      clear hw
      intro r1 S1 hw
      refine z_if_eq rfl (fun hq => ?_) (fun hq => ?_)
      · replace hw := hw.1 hq
        refine z_iinc 1 [some (.ref k), some (.int l1), some (.int l2), some (.int (l3 + 1))] rfl rfl rfl rfl ?_
        refine z_goto rfl ?_
        refine Z.forget' [some (.ref k), some (.int l1), some (.int l2), some (.int (l3 + 1))] ⟨rfl, ⟨rfl, ⟨rfl, ⟨rfl, trivial⟩⟩⟩⟩ ?_
        exact ih h_k hw
      · replace hw := hw.2 hq
        refine z_aload_n rfl rfl ?_
        refine z_getr (ci := 6) 0 rfl h_k.1 rfl w_151 h_k.2.1 ?_
        refine z_aload_n rfl rfl ?_
        refine z_getr (ci := 6) 1 rfl h_k.1 rfl w_153 h_k.2.2.2.1 ?_
        refine z_iload_n rfl rfl ?_
        obtain ⟨hc2, hw⟩ := hw
        refine z_iald (l3.toNatClampNeg) rfl h_k.2.2.2.2.1 hc2 rfl ?_
        obtain ⟨hc3, hw⟩ := hw
        refine z_aaldI rfl h_k.2.2.1.1 hc3 (h_k.2.2.1.2 _ (vlt hc3)).1 ?_
        refine z_iload_n rfl rfl ?_
        replace hw := hw _ rfl
        refine z_puti (ci := 5) 6 rfl (h_k.2.2.1.2 _ (vlt hc3)).2 rfl w_131 rfl rfl rfl ?_
        refine z_iinc 1 [some (.ref k), some (.int l1), some (.int l2), some (.int (l3 + 1))] rfl rfl rfl rfl ?_
        refine z_goto rfl ?_
        refine Z.forget' [some (.ref k), some (.int l1), some (.int l2), some (.int (l3 + 1))] ⟨rfl, ⟨rfl, ⟨rfl, ⟨rfl, trivial⟩⟩⟩⟩ ?_
        exact ih h_k hw
def cw_paint (post : Int32 → Mem → Prop) (S : Mem) (k : Nat) (l1 : Int32) (l2 : Int32) : Prop :=
  ∃ n, cw_paint_L2 post n S k l1 l2 0
set_option maxRecDepth 100000 in
set_option maxHeartbeats 1000000 in
theorem zcw_paint {g : Gm} {G : Gp} {S : Mem} {post : Int32 → Mem → Prop} {k : Nat} {l1 : Int32} {l2 : Int32} (hx : G.2.2.2 = false) (hG : isD G) (h_k : isW G k) (hw : cw_paint post S k l1 l2) : Z g M_w_paint 0 0 0 (entryL [.ref k, .int l1, .int l2] (mL M_w_paint)) [] (S, G) (Qi G post noEx) := by
  unfold cw_paint at hw
  show Z g M_w_paint 0 0 0 [some (.ref k), some (.int l1), some (.int l2), none] [] (S, G) (Qi G post noEx)
  refine z_iconst 0 rfl rfl ?_
  refine z_istore_n [some (.ref k), some (.int l1), some (.int l2), some (.int 0)] rfl rfl rfl ?_
  refine Z.forget' [some (.ref k), some (.int l1), some (.int l2), some (.int 0)] ⟨rfl, ⟨rfl, ⟨rfl, ⟨rfl, trivial⟩⟩⟩⟩ ?_
  obtain ⟨n, hw⟩ := hw
  exact zcw_paint_L2 hx hG n h_k hw
def cw_moveBlock (post : Mem → Prop) (S : Mem) (k : Nat) (l1 : Int32) (l2 : Int32) (l3 : Int32) : Prop :=
  (¬ l1 < 0) ∧ (¬ (l2 - l1) < 0) ∧ (l1.toNatClampNeg + (l2 - l1).toNatClampNeg ≤ 12) ∧ (0 + (l2 - l1).toNatClampNeg ≤ 12) ∧ ∀ S1, S1 = cpy2 S (k + 26) (k + 27) l1.toNatClampNeg 0 (l2 - l1).toNatClampNeg → ((l1 < l3) →
   (¬ l2 < 0) ∧ (¬ l1 < 0) ∧ (¬ (l3 - l2) < 0) ∧ (l2.toNatClampNeg + (l3 - l2).toNatClampNeg ≤ 12) ∧ (l1.toNatClampNeg + (l3 - l2).toNatClampNeg ≤ 12) ∧ ∀ S2, S2 = cpy2 S1 (k + 26) (k + 26) l2.toNatClampNeg l1.toNatClampNeg (l3 - l2).toNatClampNeg → (¬ (l3 - (l2 - l1)) < 0) ∧ (¬ (l2 - l1) < 0) ∧ (0 + (l2 - l1).toNatClampNeg ≤ 12) ∧ ((l3 - (l2 - l1)).toNatClampNeg + (l2 - l1).toNatClampNeg ≤ 12) ∧ ∀ S3, S3 = cpy2 S2 (k + 27) (k + 26) 0 (l3 - (l2 - l1)).toNatClampNeg (l2 - l1).toNatClampNeg → post S3) ∧
  ((¬ l1 < l3) →
   (¬ l3 < 0) ∧ (¬ (l3 + (l2 - l1)) < 0) ∧ (¬ (l1 - l3) < 0) ∧ (l3.toNatClampNeg + (l1 - l3).toNatClampNeg ≤ 12) ∧ ((l3 + (l2 - l1)).toNatClampNeg + (l1 - l3).toNatClampNeg ≤ 12) ∧ ∀ S4, S4 = cpy2 S1 (k + 26) (k + 26) l3.toNatClampNeg (l3 + (l2 - l1)).toNatClampNeg (l1 - l3).toNatClampNeg → (¬ l3 < 0) ∧ (¬ (l2 - l1) < 0) ∧ (0 + (l2 - l1).toNatClampNeg ≤ 12) ∧ (l3.toNatClampNeg + (l2 - l1).toNatClampNeg ≤ 12) ∧ ∀ S5, S5 = cpy2 S4 (k + 27) (k + 26) 0 l3.toNatClampNeg (l2 - l1).toNatClampNeg → post S5)
set_option maxRecDepth 100000 in
set_option maxHeartbeats 1000000 in
theorem zcw_moveBlock {g : Gm} {G : Gp} {S : Mem} {post : Mem → Prop} {k : Nat} {l1 : Int32} {l2 : Int32} {l3 : Int32} (hx : G.2.2.2 = false) (hG : isD G) (h_k : isW G k) (hw : cw_moveBlock post S k l1 l2 l3) : Z g M_w_moveBlock 0 0 0 (entryL [.ref k, .int l1, .int l2, .int l3] (mL M_w_moveBlock)) [] (S, G) (Qv G post noEx) := by
  unfold cw_moveBlock at hw
  show Z g M_w_moveBlock 0 0 0 [some (.ref k), some (.int l1), some (.int l2), some (.int l3), none] [] (S, G) (Qv G post noEx)
  refine z_iload_n rfl rfl ?_
  refine z_iload_n rfl rfl ?_
  refine z_isub rfl ?_
  refine z_istore [some (.ref k), some (.int l1), some (.int l2), some (.int l3), some (.int (l2 - l1))] rfl rfl rfl ?_
  refine z_aload_n rfl rfl ?_
  refine z_getr (ci := 6) 1 rfl h_k.1 rfl w_153 h_k.2.2.2.1 ?_
  refine z_iload_n rfl rfl ?_
  refine z_aload_n rfl rfl ?_
  refine z_getr (ci := 6) 3 rfl h_k.1 rfl w_157 h_k.2.2.2.2.2.1 ?_
  refine z_iconst 0 rfl rfl ?_
  refine z_iload rfl rfl ?_
  obtain ⟨hc1, hw⟩ := hw
  obtain ⟨hc2, hw⟩ := hw
  obtain ⟨hc3, hw⟩ := hw
  obtain ⟨hc4, hw⟩ := hw
  replace hw := hw _ rfl
  refine z_copyi rfl w_363 w_cp1 w_cp2 w_cp3 rfl h_k.2.2.2.2.1 h_k.2.2.2.2.2.2 hc1 (by decide) hc2 hc3 hc4 ?_
  refine z_iload_n rfl rfl ?_
  refine z_iload_n rfl rfl ?_
  refine z_icmp_gt rfl (fun hq => ?_) (fun hq => ?_)
  · replace hw := hw.1 hq
    refine z_aload_n rfl rfl ?_
    refine z_getr (ci := 6) 1 rfl h_k.1 rfl w_153 h_k.2.2.2.1 ?_
    refine z_iload_n rfl rfl ?_
    refine z_aload_n rfl rfl ?_
    refine z_getr (ci := 6) 1 rfl h_k.1 rfl w_153 h_k.2.2.2.1 ?_
    refine z_iload_n rfl rfl ?_
    refine z_iload_n rfl rfl ?_
    refine z_iload_n rfl rfl ?_
    refine z_isub rfl ?_
    obtain ⟨hc5, hw⟩ := hw
    obtain ⟨hc6, hw⟩ := hw
    obtain ⟨hc7, hw⟩ := hw
    obtain ⟨hc8, hw⟩ := hw
    obtain ⟨hc9, hw⟩ := hw
    replace hw := hw _ rfl
    refine z_copyi rfl w_363 w_cp1 w_cp2 w_cp3 rfl h_k.2.2.2.2.1 h_k.2.2.2.2.1 hc5 hc6 hc7 hc8 hc9 ?_
    refine z_aload_n rfl rfl ?_
    refine z_getr (ci := 6) 3 rfl h_k.1 rfl w_157 h_k.2.2.2.2.2.1 ?_
    refine z_iconst 0 rfl rfl ?_
    refine z_aload_n rfl rfl ?_
    refine z_getr (ci := 6) 1 rfl h_k.1 rfl w_153 h_k.2.2.2.1 ?_
    refine z_iload_n rfl rfl ?_
    refine z_iload rfl rfl ?_
    refine z_isub rfl ?_
    refine z_iload rfl rfl ?_
    obtain ⟨hc10, hw⟩ := hw
    obtain ⟨hc11, hw⟩ := hw
    obtain ⟨hc12, hw⟩ := hw
    obtain ⟨hc13, hw⟩ := hw
    replace hw := hw _ rfl
    refine z_copyi rfl w_363 w_cp1 w_cp2 w_cp3 rfl h_k.2.2.2.2.2.2 h_k.2.2.2.2.1 (by decide) hc10 hc11 hc12 hc13 ?_
    exact z_vret rfl rfl rfl rfl (Or.inl ⟨_, rfl, rfl, hw⟩)
  · replace hw := hw.2 hq
    refine z_aload_n rfl rfl ?_
    refine z_getr (ci := 6) 1 rfl h_k.1 rfl w_153 h_k.2.2.2.1 ?_
    refine z_iload_n rfl rfl ?_
    refine z_aload_n rfl rfl ?_
    refine z_getr (ci := 6) 1 rfl h_k.1 rfl w_153 h_k.2.2.2.1 ?_
    refine z_iload_n rfl rfl ?_
    refine z_iload rfl rfl ?_
    refine z_iadd rfl ?_
    refine z_iload_n rfl rfl ?_
    refine z_iload_n rfl rfl ?_
    refine z_isub rfl ?_
    obtain ⟨hc14, hw⟩ := hw
    obtain ⟨hc15, hw⟩ := hw
    obtain ⟨hc16, hw⟩ := hw
    obtain ⟨hc17, hw⟩ := hw
    obtain ⟨hc18, hw⟩ := hw
    replace hw := hw _ rfl
    refine z_copyi rfl w_363 w_cp1 w_cp2 w_cp3 rfl h_k.2.2.2.2.1 h_k.2.2.2.2.1 hc14 hc15 hc16 hc17 hc18 ?_
    refine z_aload_n rfl rfl ?_
    refine z_getr (ci := 6) 3 rfl h_k.1 rfl w_157 h_k.2.2.2.2.2.1 ?_
    refine z_iconst 0 rfl rfl ?_
    refine z_aload_n rfl rfl ?_
    refine z_getr (ci := 6) 1 rfl h_k.1 rfl w_153 h_k.2.2.2.1 ?_
    refine z_iload_n rfl rfl ?_
    refine z_iload rfl rfl ?_
    obtain ⟨hc19, hw⟩ := hw
    obtain ⟨hc20, hw⟩ := hw
    obtain ⟨hc21, hw⟩ := hw
    obtain ⟨hc22, hw⟩ := hw
    replace hw := hw _ rfl
    refine z_copyi rfl w_363 w_cp1 w_cp2 w_cp3 rfl h_k.2.2.2.2.2.2 h_k.2.2.2.2.1 (by decide) hc19 hc20 hc21 hc22 ?_
    refine z_goto rfl ?_
    exact z_vret rfl rfl rfl rfl (Or.inl ⟨_, rfl, rfl, hw⟩)
def cw_raise_J45 (post : Int32 → Mem → Prop)  (S : Mem) (k : Nat) (l1 : Int32) (l2 : Int32) (l4 : Int32) (k0 : Int32) : Prop :=
  cw_placeOf (fun r1 S1 =>
   cw_endOf (fun r2 S2 =>
    cw_moveBlock (fun S3 =>
     post 1 S3) S2 k r1 r2 (if l2 = 1 then k0 else l4 : Int32)) S1 k l1) S k l1
set_option maxRecDepth 100000 in
set_option maxHeartbeats 1000000 in
theorem zcw_raise_J45 {g : Gm} {G : Gp} {post : Int32 → Mem → Prop} (hx : G.2.2.2 = false) (hG : isD G) {S : Mem} {k : Nat} {l1 : Int32} {l2 : Int32} {l4 : Int32} {k0 : Int32}  (h_k : isW G k) (hw : cw_raise_J45 post S k l1 l2 l4 k0) : Z g M_w_raise 0 0 45 [some (.ref k), some (.int l1), some (.int l2), none, some (.int l4), none] [.int k0] (S, G) (Qi G post noEx) := by
  unfold cw_raise_J45 at hw
  refine z_istore [some (.ref k), some (.int l1), some (.int l2), none, some (.int l4), some (.int k0)] rfl rfl rfl ?_
  refine z_aload_n rfl rfl ?_
  refine z_aload_n rfl rfl ?_
  refine z_iload_n rfl rfl ?_
  refine z_cvi (M' := M_w_placeOf) [.int l1] hx rfl w_370 cv_w_placeOf h_k.1 (by decide) rfl rfl rfl rfl (zcw_placeOf hx hG h_k hw) ?_ (fun _ _ hf => hf.elim)
  clear hw
  intro r1 S1 hw
  refine z_aload_n rfl rfl ?_
  refine z_iload_n rfl rfl ?_
  refine z_cvi (M' := M_w_endOf) [.int l1] hx rfl w_374 cv_w_endOf h_k.1 (by decide) rfl rfl rfl rfl (zcw_endOf hx hG h_k hw) ?_ (fun _ _ hf => hf.elim)
  clear hw
  intro r2 S2 hw
  refine z_iload_n rfl rfl ?_
  refine z_iconst 1 rfl rfl ?_
  have hj60 : ∀ v : Int32, v = (if l2 = 1 then k0 else l4 : Int32) → Z g M_w_raise 0 0 70 [some (.ref k), some (.int l1), some (.int l2), none, some (.int l4), some (.int k0)] [.int v, .int r2, .int r1, .ref k] (S2, G) (Qi G post noEx) := by
    intro v hv
    subst hv
    refine z_cvv (M' := M_w_moveBlock) [.int r1, .int r2, .int (if l2 = 1 then k0 else l4 : Int32)] hx rfl w_447 cv_w_moveBlock h_k.1 (by decide) rfl rfl rfl rfl (zcw_moveBlock hx hG h_k hw) ?_ (fun _ _ hf => hf.elim)
    clear hw
    intro S3 hw
    refine z_iconst 1 rfl rfl ?_
    exact z_zret rfl rfl (by decide) rfl rfl (Or.inl ⟨_, _, rfl, rfl, hw⟩)
  refine z_icmp_ne rfl (fun hp60 => ?_) (fun hp60 => ?_)
  · refine z_iload rfl rfl ?_
    exact hj60 _ (by rw [if_neg hp60])
  · refine z_iload rfl rfl ?_
    refine z_goto rfl ?_
    exact hj60 _ (by rw [if_pos hp60])
def cw_raise_J26 (post : Int32 → Mem → Prop)  (S : Mem) (k : Nat) (l1 : Int32) (l2 : Int32) (l3 : Int32) (k0 : Int32) : Prop :=
  ((¬ l3 = (-1)) →
   cw_endOf (fun r1 S1 =>
    cw_raise_J45 post S1 k l1 l2 k0 r1) S k l3) ∧
  ((l3 = (-1)) →
   cw_raise_J45 post S k l1 l2 k0 (S k 2))
set_option maxRecDepth 100000 in
set_option maxHeartbeats 1000000 in
theorem zcw_raise_J26 {g : Gm} {G : Gp} {post : Int32 → Mem → Prop} (hx : G.2.2.2 = false) (hG : isD G) {S : Mem} {k : Nat} {l1 : Int32} {l2 : Int32} {l3 : Int32} {k0 : Int32}  (h_k : isW G k) (hw : cw_raise_J26 post S k l1 l2 l3 k0) : Z g M_w_raise 0 0 26 [some (.ref k), some (.int l1), some (.int l2), some (.int l3), none, none] [.int k0] (S, G) (Qi G post noEx) := by
  unfold cw_raise_J26 at hw
  refine z_istore [some (.ref k), some (.int l1), some (.int l2), some (.int l3), some (.int k0), none] rfl rfl rfl ?_
  refine z_iload_n rfl rfl ?_
  refine z_iconst (-1) rfl rfl ?_
  refine z_icmp_ne rfl (fun hq => ?_) (fun hq => ?_)
  · replace hw := hw.1 hq
    refine z_aload_n rfl rfl ?_
    refine z_iload_n rfl rfl ?_
    refine z_cvi (M' := M_w_endOf) [.int l3] hx rfl w_374 cv_w_endOf h_k.1 (by decide) rfl rfl rfl rfl (zcw_endOf hx hG h_k hw) ?_ (fun _ _ hf => hf.elim)
    clear hw
    intro r1 S1 hw
    refine Z.forget' [some (.ref k), some (.int l1), some (.int l2), none, some (.int k0), none] ⟨rfl, ⟨rfl, ⟨rfl, ⟨rfl, trivial⟩⟩⟩⟩ ?_
    exact zcw_raise_J45 hx hG h_k hw
  · replace hw := hw.2 hq
    refine z_aload_n rfl rfl ?_
    refine z_geti (ci := 6) 2 rfl h_k.1 rfl w_155 ?_
    refine z_goto rfl ?_
    refine Z.forget' [some (.ref k), some (.int l1), some (.int l2), none, some (.int k0), none] ⟨rfl, ⟨rfl, ⟨rfl, ⟨rfl, trivial⟩⟩⟩⟩ ?_
    exact zcw_raise_J45 hx hG h_k hw
def cw_raise (post : Int32 → Mem → Prop) (S : Mem) (k : Nat) (l1 : Int32) (l2 : Int32) : Prop :=
  (vp_in l1 24) ∧ ((¬ (S ((k + 2) + l1.toNatClampNeg) 7) = (-1)) →
   cw_placeOf (fun r1 S1 =>
    cw_raise_J26 post S1 k l1 l2 (S ((k + 2) + l1.toNatClampNeg) 7) (r1 + 1)) S k (S ((k + 2) + l1.toNatClampNeg) 7)) ∧
  (((S ((k + 2) + l1.toNatClampNeg) 7) = (-1)) →
   cw_raise_J26 post S k l1 l2 (S ((k + 2) + l1.toNatClampNeg) 7) 0)
set_option maxRecDepth 100000 in
set_option maxHeartbeats 1000000 in
theorem zcw_raise {g : Gm} {G : Gp} {S : Mem} {post : Int32 → Mem → Prop} {k : Nat} {l1 : Int32} {l2 : Int32} (hx : G.2.2.2 = false) (hG : isD G) (h_k : isW G k) (hw : cw_raise post S k l1 l2) : Z g M_w_raise 0 0 0 (entryL [.ref k, .int l1, .int l2] (mL M_w_raise)) [] (S, G) (Qi G post noEx) := by
  unfold cw_raise at hw
  show Z g M_w_raise 0 0 0 [some (.ref k), some (.int l1), some (.int l2), none, none, none] [] (S, G) (Qi G post noEx)
  refine z_aload_n rfl rfl ?_
  refine z_getr (ci := 6) 0 rfl h_k.1 rfl w_151 h_k.2.1 ?_
  refine z_iload_n rfl rfl ?_
  obtain ⟨hc1, hw⟩ := hw
  refine z_aaldI rfl h_k.2.2.1.1 hc1 (h_k.2.2.1.2 _ (vlt hc1)).1 ?_
  refine z_geti (ci := 5) 7 rfl (h_k.2.2.1.2 _ (vlt hc1)).2 rfl w_133 ?_
  refine z_istore_n [some (.ref k), some (.int l1), some (.int l2), some (.int (S ((k + 2) + l1.toNatClampNeg) 7)), none, none] rfl rfl rfl ?_
  refine z_iload_n rfl rfl ?_
  refine z_iconst (-1) rfl rfl ?_
  refine z_icmp_ne rfl (fun hq => ?_) (fun hq => ?_)
  · replace hw := hw.1 hq
    refine z_aload_n rfl rfl ?_
    refine z_iload_n rfl rfl ?_
    refine z_cvi (M' := M_w_placeOf) [.int (S ((k + 2) + l1.toNatClampNeg) 7)] hx rfl w_370 cv_w_placeOf h_k.1 (by decide) rfl rfl rfl rfl (zcw_placeOf hx hG h_k hw) ?_ (fun _ _ hf => hf.elim)
    clear hw
    intro r1 S1 hw
    refine z_iconst 1 rfl rfl ?_
    refine z_iadd rfl ?_
    refine Z.forget' [some (.ref k), some (.int l1), some (.int l2), some (.int (S ((k + 2) + l1.toNatClampNeg) 7)), none, none] ⟨rfl, ⟨rfl, ⟨rfl, ⟨rfl, trivial⟩⟩⟩⟩ ?_
    exact zcw_raise_J26 hx hG h_k hw
  · replace hw := hw.2 hq
    refine z_iconst 0 rfl rfl ?_
    refine z_goto rfl ?_
    refine Z.forget' [some (.ref k), some (.int l1), some (.int l2), some (.int (S ((k + 2) + l1.toNatClampNeg) 7)), none, none] ⟨rfl, ⟨rfl, ⟨rfl, ⟨rfl, trivial⟩⟩⟩⟩ ?_
    exact zcw_raise_J26 hx hG h_k hw
def ci_becomeGroup (post : Mem → Prop) (S : Mem) (k : Nat) : Prop :=
  ∀ S1, S1 = up2 S k 0 1 → ∀ S2, S2 = up2 S1 k 1 3 → ∀ S3, S3 = up2 S2 k 6 (-1) → ∀ S4, S4 = up2 S3 k 7 (-1) → post S4
set_option maxRecDepth 100000 in
set_option maxHeartbeats 1000000 in
theorem zci_becomeGroup {g : Gm} {G : Gp} {S : Mem} {post : Mem → Prop} {k : Nat} (hx : G.2.2.2 = false) (hG : isD G) (h_k : isI G k) (hw : ci_becomeGroup post S k) : Z g M_i_becomeGroup 0 0 0 (entryL [.ref k] (mL M_i_becomeGroup)) [] (S, G) (Qv G post noEx) := by
  unfold ci_becomeGroup at hw
  show Z g M_i_becomeGroup 0 0 0 [some (.ref k)] [] (S, G) (Qv G post noEx)
  refine z_aload_n rfl rfl ?_
  refine z_iconst 1 rfl rfl ?_
  replace hw := hw _ rfl
  refine z_puti (ci := 5) 0 rfl h_k rfl w_118 rfl (by decide) rfl ?_
  refine z_aload_n rfl rfl ?_
  refine z_iconst 3 rfl rfl ?_
  replace hw := hw _ rfl
  refine z_puti (ci := 5) 1 rfl h_k rfl w_120 rfl rfl rfl ?_
  refine z_aload_n rfl rfl ?_
  refine z_iconst (-1) rfl rfl ?_
  replace hw := hw _ rfl
  refine z_puti (ci := 5) 6 rfl h_k rfl w_130 rfl rfl rfl ?_
  refine z_aload_n rfl rfl ?_
  refine z_iconst (-1) rfl rfl ?_
  replace hw := hw _ rfl
  refine z_puti (ci := 5) 7 rfl h_k rfl w_132 rfl rfl rfl ?_
  exact z_vret rfl rfl rfl rfl (Or.inl ⟨_, rfl, rfl, hw⟩)
def cw_group (post : Int32 → Mem → Prop) (S : Mem) (k : Nat) (l1 : Int32) (l2 : Int32) (l3 : Int32) : Prop :=
  ((l1 = l2) →
   post 0 S) ∧
  ((¬ l1 = l2) →
   (vp_in l2 24) ∧ (((S ((k + 2) + l2.toNatClampNeg) 0) = 0) →
    post 0 S) ∧
   ((¬ (S ((k + 2) + l2.toNatClampNeg) 0) = 0) →
    (vp_in l1 24) ∧ ((¬ (S ((k + 2) + l1.toNatClampNeg) 7) = (-1)) →
     post 0 S) ∧
    (((S ((k + 2) + l1.toNatClampNeg) 7) = (-1)) →
     (vp_in l2 24) ∧ (((S ((k + 2) + l2.toNatClampNeg) 7) = (-1)) →
      (((S k 2) < 12) →
       cw_placeOf (fun r1 S1 =>
        cw_placeOf (fun r2 S2 =>
         cw_placeOf (fun r3 S3 =>
          cw_endOf (fun r4 S4 =>
           cw_placeOf (fun r5 S5 =>
            cw_moveBlock (fun S6 =>
             cw_placeOf (fun r7 S7 =>
              cw_insert (fun S8 =>
               (vp_in l3 24) ∧ ci_becomeGroup (fun S9 =>
                (vp_in l1 24) ∧ ∀ S10, S10 = up2 S9 ((k + 2) + l1.toNatClampNeg) 7 l3 → (vp_in l2 24) ∧ ∀ S11, S11 = up2 S10 ((k + 2) + l2.toNatClampNeg) 7 l3 → post 1 S11) S8 ((k + 2) + l3.toNatClampNeg)) S7 k l3 r7) S6 k (if r2 ≤ r1 then l2 else l1 : Int32)) S5 k r3 r4 r5) S4 k (if (if r2 ≤ r1 then l2 else l1 : Int32) = l1 then l2 else l1 : Int32)) S3 k (if r2 ≤ r1 then l2 else l1 : Int32)) S2 k (if r2 ≤ r1 then l2 else l1 : Int32)) S1 k l2) S k l1) ∧
      ((¬ (S k 2) < 12) →
       post 0 S)) ∧
     ((¬ (S ((k + 2) + l2.toNatClampNeg) 7) = (-1)) →
      post 0 S))))
set_option maxRecDepth 100000 in
set_option maxHeartbeats 1000000 in
theorem zcw_group {g : Gm} {G : Gp} {S : Mem} {post : Int32 → Mem → Prop} {k : Nat} {l1 : Int32} {l2 : Int32} {l3 : Int32} (hx : G.2.2.2 = false) (hG : isD G) (h_k : isW G k) (hw : cw_group post S k l1 l2 l3) : Z g M_w_group 0 0 0 (entryL [.ref k, .int l1, .int l2, .int l3] (mL M_w_group)) [] (S, G) (Qi G post noEx) := by
  unfold cw_group at hw
  show Z g M_w_group 0 0 0 [some (.ref k), some (.int l1), some (.int l2), some (.int l3), none, none] [] (S, G) (Qi G post noEx)
  refine z_iload_n rfl rfl ?_
  refine z_iload_n rfl rfl ?_
  refine z_icmp_eq rfl (fun hq => ?_) (fun hq => ?_)
  · replace hw := hw.1 hq
    refine z_iconst 0 rfl rfl ?_
    exact z_zret rfl rfl (by decide) rfl rfl (Or.inl ⟨_, _, rfl, rfl, hw⟩)
  · replace hw := hw.2 hq
    refine z_aload_n rfl rfl ?_
    refine z_getr (ci := 6) 0 rfl h_k.1 rfl w_151 h_k.2.1 ?_
    refine z_iload_n rfl rfl ?_
    obtain ⟨hc1, hw⟩ := hw
    refine z_aaldI rfl h_k.2.2.1.1 hc1 (h_k.2.2.1.2 _ (vlt hc1)).1 ?_
    refine z_geti (ci := 5) 0 rfl (h_k.2.2.1.2 _ (vlt hc1)).2 rfl w_119 ?_
    refine z_if_eq rfl (fun hq => ?_) (fun hq => ?_)
    · replace hw := hw.1 hq
      refine z_iconst 0 rfl rfl ?_
      exact z_zret rfl rfl (by decide) rfl rfl (Or.inl ⟨_, _, rfl, rfl, hw⟩)
    · replace hw := hw.2 hq
      refine z_aload_n rfl rfl ?_
      refine z_getr (ci := 6) 0 rfl h_k.1 rfl w_151 h_k.2.1 ?_
      refine z_iload_n rfl rfl ?_
      obtain ⟨hc2, hw⟩ := hw
      refine z_aaldI rfl h_k.2.2.1.1 hc2 (h_k.2.2.1.2 _ (vlt hc2)).1 ?_
      refine z_geti (ci := 5) 7 rfl (h_k.2.2.1.2 _ (vlt hc2)).2 rfl w_133 ?_
      refine z_iconst (-1) rfl rfl ?_
      refine z_icmp_ne rfl (fun hq => ?_) (fun hq => ?_)
      · replace hw := hw.1 hq
        refine z_iconst 0 rfl rfl ?_
        exact z_zret rfl rfl (by decide) rfl rfl (Or.inl ⟨_, _, rfl, rfl, hw⟩)
      · replace hw := hw.2 hq
        refine z_aload_n rfl rfl ?_
        refine z_getr (ci := 6) 0 rfl h_k.1 rfl w_151 h_k.2.1 ?_
        refine z_iload_n rfl rfl ?_
        obtain ⟨hc3, hw⟩ := hw
        refine z_aaldI rfl h_k.2.2.1.1 hc3 (h_k.2.2.1.2 _ (vlt hc3)).1 ?_
        refine z_geti (ci := 5) 7 rfl (h_k.2.2.1.2 _ (vlt hc3)).2 rfl w_133 ?_
        refine z_iconst (-1) rfl rfl ?_
        refine z_icmp_eq rfl (fun hq => ?_) (fun hq => ?_)
        · replace hw := hw.1 hq
          refine z_aload_n rfl rfl ?_
          refine z_geti (ci := 6) 2 rfl h_k.1 rfl w_155 ?_
          refine z_bipush 12 rfl rfl ?_
          refine z_icmp_lt rfl (fun hq => ?_) (fun hq => ?_)
          · replace hw := hw.1 hq
            refine z_aload_n rfl rfl ?_
            refine z_iload_n rfl rfl ?_
            refine z_cvi (M' := M_w_placeOf) [.int l1] hx rfl w_370 cv_w_placeOf h_k.1 (by decide) rfl rfl rfl rfl (zcw_placeOf hx hG h_k hw) ?_ (fun _ _ hf => hf.elim)
            clear hw
            intro r1 S1 hw
            refine z_aload_n rfl rfl ?_
            refine z_iload_n rfl rfl ?_
            refine z_cvi (M' := M_w_placeOf) [.int l2] hx rfl w_370 cv_w_placeOf h_k.1 (by decide) rfl rfl rfl rfl (zcw_placeOf hx hG h_k hw) ?_ (fun _ _ hf => hf.elim)
            clear hw
            intro r2 S2 hw
            have hj66 : ∀ v : Int32, v = (if r2 ≤ r1 then l2 else l1 : Int32) → Z g M_w_group 0 0 74 [some (.ref k), some (.int l1), some (.int l2), some (.int l3), none, none] [.int v] (S2, G) (Qi G post noEx) := by
              intro v hv
              subst hv
              refine z_istore [some (.ref k), some (.int l1), some (.int l2), some (.int l3), some (.int (if r2 ≤ r1 then l2 else l1 : Int32)), none] rfl rfl rfl ?_
              refine z_iload rfl rfl ?_
              refine z_iload_n rfl rfl ?_
              have hj79 : ∀ v : Int32, v = (if (if r2 ≤ r1 then l2 else l1 : Int32) = l1 then l2 else l1 : Int32) → Z g M_w_group 0 0 87 [some (.ref k), some (.int l1), some (.int l2), some (.int l3), some (.int (if r2 ≤ r1 then l2 else l1 : Int32)), none] [.int v] (S2, G) (Qi G post noEx) := by
                intro v hv
                subst hv
                refine z_istore [some (.ref k), some (.int l1), some (.int l2), some (.int l3), some (.int (if r2 ≤ r1 then l2 else l1 : Int32)), some (.int (if (if r2 ≤ r1 then l2 else l1 : Int32) = l1 then l2 else l1 : Int32))] rfl rfl rfl ?_
                refine z_aload_n rfl rfl ?_
                refine z_aload_n rfl rfl ?_
                refine z_iload rfl rfl ?_
                refine z_cvi (M' := M_w_placeOf) [.int (if r2 ≤ r1 then l2 else l1 : Int32)] hx rfl w_370 cv_w_placeOf h_k.1 (by decide) rfl rfl rfl rfl (zcw_placeOf hx hG h_k hw) ?_ (fun _ _ hf => hf.elim)
                clear hw
                intro r3 S3 hw
                refine z_aload_n rfl rfl ?_
                refine z_iload rfl rfl ?_
                refine z_cvi (M' := M_w_endOf) [.int (if r2 ≤ r1 then l2 else l1 : Int32)] hx rfl w_374 cv_w_endOf h_k.1 (by decide) rfl rfl rfl rfl (zcw_endOf hx hG h_k hw) ?_ (fun _ _ hf => hf.elim)
                clear hw
                intro r4 S4 hw
                refine z_aload_n rfl rfl ?_
                refine z_iload rfl rfl ?_
                refine z_cvi (M' := M_w_placeOf) [.int (if (if r2 ≤ r1 then l2 else l1 : Int32) = l1 then l2 else l1 : Int32)] hx rfl w_370 cv_w_placeOf h_k.1 (by decide) rfl rfl rfl rfl (zcw_placeOf hx hG h_k hw) ?_ (fun _ _ hf => hf.elim)
                clear hw
                intro r5 S5 hw
                refine z_cvv (M' := M_w_moveBlock) [.int r3, .int r4, .int r5] hx rfl w_447 cv_w_moveBlock h_k.1 (by decide) rfl rfl rfl rfl (zcw_moveBlock hx hG h_k hw) ?_ (fun _ _ hf => hf.elim)
                clear hw
                intro S6 hw
                refine z_aload_n rfl rfl ?_
                refine z_iload_n rfl rfl ?_
                refine z_aload_n rfl rfl ?_
                refine z_iload rfl rfl ?_
                refine z_cvi (M' := M_w_placeOf) [.int (if r2 ≤ r1 then l2 else l1 : Int32)] hx rfl w_370 cv_w_placeOf h_k.1 (by decide) rfl rfl rfl rfl (zcw_placeOf hx hG h_k hw) ?_ (fun _ _ hf => hf.elim)
                clear hw
                intro r7 S7 hw
                refine z_cvv (M' := M_w_insert) [.int l3, .int r7] hx rfl w_359 cv_w_insert h_k.1 (by decide) rfl rfl rfl rfl (zcw_insert hx hG h_k hw) ?_ (fun _ _ hf => hf.elim)
                clear hw
                intro S8 hw
                refine z_aload_n rfl rfl ?_
                refine z_getr (ci := 6) 0 rfl h_k.1 rfl w_151 h_k.2.1 ?_
                refine z_iload_n rfl rfl ?_
                obtain ⟨hc4, hw⟩ := hw
                refine z_aaldI rfl h_k.2.2.1.1 hc4 (h_k.2.2.1.2 _ (vlt hc4)).1 ?_
                refine z_cvv (M' := M_i_becomeGroup) [] hx rfl w_455 cv_i_becomeGroup (h_k.2.2.1.2 _ (vlt hc4)).2 (by decide) rfl rfl rfl rfl (zci_becomeGroup hx hG (h_k.2.2.1.2 _ (vlt hc4)).2 hw) ?_ (fun _ _ hf => hf.elim)
                clear hw
                intro S9 hw
                refine z_aload_n rfl rfl ?_
                refine z_getr (ci := 6) 0 rfl h_k.1 rfl w_151 h_k.2.1 ?_
                refine z_iload_n rfl rfl ?_
                obtain ⟨hc5, hw⟩ := hw
                refine z_aaldI rfl h_k.2.2.1.1 hc5 (h_k.2.2.1.2 _ (vlt hc5)).1 ?_
                refine z_iload_n rfl rfl ?_
                replace hw := hw _ rfl
                refine z_puti (ci := 5) 7 rfl (h_k.2.2.1.2 _ (vlt hc5)).2 rfl w_133 rfl rfl rfl ?_
                refine z_aload_n rfl rfl ?_
                refine z_getr (ci := 6) 0 rfl h_k.1 rfl w_151 h_k.2.1 ?_
                refine z_iload_n rfl rfl ?_
                obtain ⟨hc6, hw⟩ := hw
                refine z_aaldI rfl h_k.2.2.1.1 hc6 (h_k.2.2.1.2 _ (vlt hc6)).1 ?_
                refine z_iload_n rfl rfl ?_
                replace hw := hw _ rfl
                refine z_puti (ci := 5) 7 rfl (h_k.2.2.1.2 _ (vlt hc6)).2 rfl w_133 rfl rfl rfl ?_
                refine z_iconst 1 rfl rfl ?_
                exact z_zret rfl rfl (by decide) rfl rfl (Or.inl ⟨_, _, rfl, rfl, hw⟩)
              refine z_icmp_ne rfl (fun hp79 => ?_) (fun hp79 => ?_)
              · refine z_iload_n rfl rfl ?_
                exact hj79 _ (by rw [if_neg hp79])
              · refine z_iload_n rfl rfl ?_
                refine z_goto rfl ?_
                exact hj79 _ (by rw [if_pos hp79])
            refine z_icmp_ge rfl (fun hp66 => ?_) (fun hp66 => ?_)
            · refine z_iload_n rfl rfl ?_
              exact hj66 _ (by rw [if_pos hp66])
            · refine z_iload_n rfl rfl ?_
              refine z_goto rfl ?_
              exact hj66 _ (by rw [if_neg hp66])
          · replace hw := hw.2 hq
            refine z_iconst 0 rfl rfl ?_
            exact z_zret rfl rfl (by decide) rfl rfl (Or.inl ⟨_, _, rfl, rfl, hw⟩)
        · replace hw := hw.2 hq
          refine z_iconst 0 rfl rfl ?_
          exact z_zret rfl rfl (by decide) rfl rfl (Or.inl ⟨_, _, rfl, rfl, hw⟩)
def cw_ungroup_L31 (post : Int32 → Mem → Prop)  : Nat → Mem → Nat → Int32 → Int32 → Int32 → Int32 → Prop
  | 0, _, _, _, _, _, _ => False
  | n + 1, S, k, l1, l2, l3, l4 =>
  ((l3 ≤ l4) →
   cw_removeBlock (fun S1 =>
    post 1 S1) S k l2 (l2 + 1)) ∧
  ((¬ l3 ≤ l4) →
   (vp_in l4 12) ∧ (vp_in (S (k + 26) l4.toNatClampNeg) 24) ∧ ((¬ (S ((k + 2) + (S (k + 26) l4.toNatClampNeg).toNatClampNeg) 7) = l1) →
    cw_ungroup_L31 post n S k l1 l2 l3 (l4 + 1)) ∧
   (((S ((k + 2) + (S (k + 26) l4.toNatClampNeg).toNatClampNeg) 7) = l1) →
    (vp_in l1 24) ∧ ∀ S2, S2 = up2 S ((k + 2) + (S (k + 26) l4.toNatClampNeg).toNatClampNeg) 7 (S ((k + 2) + l1.toNatClampNeg) 7) → cw_ungroup_L31 post n S2 k l1 l2 l3 (l4 + 1)))
set_option maxRecDepth 100000 in
set_option maxHeartbeats 1000000 in
theorem zcw_ungroup_L31 {g : Gm} {G : Gp} {post : Int32 → Mem → Prop} (hx : G.2.2.2 = false) (hG : isD G) : ∀ (n : Nat) {S : Mem} {k : Nat} {l1 : Int32} {l2 : Int32} {l3 : Int32} {l4 : Int32}  (h_k : isW G k), cw_ungroup_L31 post n S k l1 l2 l3 l4 → Z g M_w_ungroup 0 0 31 [some (.ref k), some (.int l1), some (.int l2), some (.int l3), some (.int l4), none] [] (S, G) (Qi G post noEx) := by
  intro n
  induction n with
  | zero =>
    intros
    rename_i hw
    exact hw.elim
  | succ n ih =>
    intro S k l1 l2 l3 l4 h_k hw
    rw [cw_ungroup_L31] at hw
    refine z_iload rfl rfl ?_
    refine z_iload_n rfl rfl ?_
    refine z_icmp_ge rfl (fun hq => ?_) (fun hq => ?_)
    · replace hw := hw.1 hq
      refine z_aload_n rfl rfl ?_
      refine z_iload_n rfl rfl ?_
      refine z_iload_n rfl rfl ?_
      refine z_iconst 1 rfl rfl ?_
      refine z_iadd rfl ?_
      refine z_cvv (M' := M_w_removeBlock) [.int l2, .int (l2 + 1)] hx rfl w_382 cv_w_removeBlock h_k.1 (by decide) rfl rfl rfl rfl (zcw_removeBlock hx hG h_k hw) ?_ (fun _ _ hf => hf.elim)
      clear hw
      intro S1 hw
      refine z_iconst 1 rfl rfl ?_
      exact z_zret rfl rfl (by decide) rfl rfl (Or.inl ⟨_, _, rfl, rfl, hw⟩)
    · replace hw := hw.2 hq
      refine z_aload_n rfl rfl ?_
      refine z_getr (ci := 6) 0 rfl h_k.1 rfl w_151 h_k.2.1 ?_
      refine z_aload_n rfl rfl ?_
      refine z_getr (ci := 6) 1 rfl h_k.1 rfl w_153 h_k.2.2.2.1 ?_
      refine z_iload rfl rfl ?_
      obtain ⟨hc1, hw⟩ := hw
      refine z_iald (l4.toNatClampNeg) rfl h_k.2.2.2.2.1 hc1 rfl ?_
      obtain ⟨hc2, hw⟩ := hw
      refine z_aaldI rfl h_k.2.2.1.1 hc2 (h_k.2.2.1.2 _ (vlt hc2)).1 ?_
      refine z_astore [some (.ref k), some (.int l1), some (.int l2), some (.int l3), some (.int l4), some (.ref ((k + 2) + (S (k + 26) l4.toNatClampNeg).toNatClampNeg))] rfl rfl rfl ?_
      refine z_aload rfl rfl ?_
      refine z_geti (ci := 5) 7 rfl (h_k.2.2.1.2 _ (vlt hc2)).2 rfl w_133 ?_
      refine z_iload_n rfl rfl ?_
      refine z_icmp_ne rfl (fun hq => ?_) (fun hq => ?_)
      · replace hw := hw.1 hq
        refine z_iinc 1 [some (.ref k), some (.int l1), some (.int l2), some (.int l3), some (.int (l4 + 1)), some (.ref ((k + 2) + (S (k + 26) l4.toNatClampNeg).toNatClampNeg))] rfl rfl rfl rfl ?_
        refine z_goto rfl ?_
        refine Z.forget' [some (.ref k), some (.int l1), some (.int l2), some (.int l3), some (.int (l4 + 1)), none] ⟨rfl, ⟨rfl, ⟨rfl, ⟨rfl, ⟨rfl, trivial⟩⟩⟩⟩⟩ ?_
        exact ih h_k hw
      · replace hw := hw.2 hq
        refine z_aload rfl rfl ?_
        refine z_aload_n rfl rfl ?_
        refine z_getr (ci := 6) 0 rfl h_k.1 rfl w_151 h_k.2.1 ?_
        refine z_iload_n rfl rfl ?_
        obtain ⟨hc3, hw⟩ := hw
        refine z_aaldI rfl h_k.2.2.1.1 hc3 (h_k.2.2.1.2 _ (vlt hc3)).1 ?_
        refine z_geti (ci := 5) 7 rfl (h_k.2.2.1.2 _ (vlt hc3)).2 rfl w_133 ?_
        replace hw := hw _ rfl
        refine z_puti (ci := 5) 7 rfl (h_k.2.2.1.2 _ (vlt hc2)).2 rfl w_133 rfl rfl rfl ?_
        refine z_iinc 1 [some (.ref k), some (.int l1), some (.int l2), some (.int l3), some (.int (l4 + 1)), some (.ref ((k + 2) + (S (k + 26) l4.toNatClampNeg).toNatClampNeg))] rfl rfl rfl rfl ?_
        refine z_goto rfl ?_
        refine Z.forget' [some (.ref k), some (.int l1), some (.int l2), some (.int l3), some (.int (l4 + 1)), none] ⟨rfl, ⟨rfl, ⟨rfl, ⟨rfl, ⟨rfl, trivial⟩⟩⟩⟩⟩ ?_
        exact ih h_k hw
def cw_ungroup (post : Int32 → Mem → Prop) (S : Mem) (k : Nat) (l1 : Int32) : Prop :=
  (vp_in l1 24) ∧ ci_isShape (fun r1 S1 =>
   ((r1 = 0) →
    cw_placeOf (fun r2 S2 =>
     cw_endOf (fun r3 S3 =>
      ∃ n, cw_ungroup_L31 post n S3 k l1 r2 r3 (r2 + 1)) S2 k l1) S1 k l1) ∧
   ((¬ r1 = 0) →
    post 0 S1)) S ((k + 2) + l1.toNatClampNeg)
set_option maxRecDepth 100000 in
set_option maxHeartbeats 1000000 in
theorem zcw_ungroup {g : Gm} {G : Gp} {S : Mem} {post : Int32 → Mem → Prop} {k : Nat} {l1 : Int32} (hx : G.2.2.2 = false) (hG : isD G) (h_k : isW G k) (hw : cw_ungroup post S k l1) : Z g M_w_ungroup 0 0 0 (entryL [.ref k, .int l1] (mL M_w_ungroup)) [] (S, G) (Qi G post noEx) := by
  unfold cw_ungroup at hw
  show Z g M_w_ungroup 0 0 0 [some (.ref k), some (.int l1), none, none, none, none] [] (S, G) (Qi G post noEx)
  refine z_aload_n rfl rfl ?_
  refine z_getr (ci := 6) 0 rfl h_k.1 rfl w_151 h_k.2.1 ?_
  refine z_iload_n rfl rfl ?_
  obtain ⟨hc1, hw⟩ := hw
  refine z_aaldI rfl h_k.2.2.1.1 hc1 (h_k.2.2.1.2 _ (vlt hc1)).1 ?_
  refine z_cvi (M' := M_i_isShape) [] hx rfl w_394 cv_i_isShape (h_k.2.2.1.2 _ (vlt hc1)).2 (by decide) rfl rfl rfl rfl (zci_isShape hx hG (h_k.2.2.1.2 _ (vlt hc1)).2 hw) ?_ (fun _ _ hf => hf.elim)
  clear hw
  intro r1 S1 hw
  refine z_if_eq rfl (fun hq => ?_) (fun hq => ?_)
  · replace hw := hw.1 hq
    refine z_aload_n rfl rfl ?_
    refine z_iload_n rfl rfl ?_
    refine z_cvi (M' := M_w_placeOf) [.int l1] hx rfl w_370 cv_w_placeOf h_k.1 (by decide) rfl rfl rfl rfl (zcw_placeOf hx hG h_k hw) ?_ (fun _ _ hf => hf.elim)
    clear hw
    intro r2 S2 hw
    refine z_istore_n [some (.ref k), some (.int l1), some (.int r2), none, none, none] rfl rfl rfl ?_
    refine z_aload_n rfl rfl ?_
    refine z_iload_n rfl rfl ?_
    refine z_cvi (M' := M_w_endOf) [.int l1] hx rfl w_374 cv_w_endOf h_k.1 (by decide) rfl rfl rfl rfl (zcw_endOf hx hG h_k hw) ?_ (fun _ _ hf => hf.elim)
    clear hw
    intro r3 S3 hw
    refine z_istore_n [some (.ref k), some (.int l1), some (.int r2), some (.int r3), none, none] rfl rfl rfl ?_
    refine z_iload_n rfl rfl ?_
    refine z_iconst 1 rfl rfl ?_
    refine z_iadd rfl ?_
    refine z_istore [some (.ref k), some (.int l1), some (.int r2), some (.int r3), some (.int (r2 + 1)), none] rfl rfl rfl ?_
    refine Z.forget' [some (.ref k), some (.int l1), some (.int r2), some (.int r3), some (.int (r2 + 1)), none] ⟨rfl, ⟨rfl, ⟨rfl, ⟨rfl, ⟨rfl, trivial⟩⟩⟩⟩⟩ ?_
    obtain ⟨n, hw⟩ := hw
    exact zcw_ungroup_L31 hx hG n h_k hw
  · replace hw := hw.2 hq
    refine z_iconst 0 rfl rfl ?_
    exact z_zret rfl rfl (by decide) rfl rfl (Or.inl ⟨_, _, rfl, rfl, hw⟩)
