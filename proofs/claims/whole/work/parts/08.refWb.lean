def r_scale_L9 (post : Mem → Prop)  : Nat → Mem → Int32 → Int32 → Int32 → Int32 → Prop
  | 0, _, _, _, _, _ => False
  | n + 1, S, l2, l3, l4, l5 =>
  ((l2 ≤ l5) →
   post S) ∧
  ((¬ l2 ≤ l5) →
   (vp_in ((8 * l5) + 1) 112) ∧ 
   (((S 154 ((8 * l5) + 1).toNatClampNeg) = 3) →
    r_scale_L9 post n S l2 l3 l4 (l5 + 1)) ∧
   ((¬ (S 154 ((8 * l5) + 1).toNatClampNeg) = 3) →
    (vp_in ((8 * l5) + 4) 112) ∧ 
    (¬ l4 = 0) ∧ 
    (vp_in ((8 * l5) + 5) 112) ∧ 
    (¬ l4 = 0) ∧ 
    (vp_in ((8 * l5) + 2) 112) ∧ 
    (¬ l4 = 0) ∧ 
    (vp_in ((8 * l5) + 2) 112) ∧ ∀ S1, S1 = up2 S 154 ((8 * l5) + 2).toNatClampNeg ((S 148 12) + ((((S 154 ((8 * l5) + 2).toNatClampNeg) - (S 148 12)) * l3) / l4)) → 
    (vp_in ((8 * l5) + 3) 112) ∧ 
    (¬ l4 = 0) ∧ 
    (vp_in ((8 * l5) + 3) 112) ∧ ∀ S2, S2 = up2 S1 154 ((8 * l5) + 3).toNatClampNeg ((S1 148 13) + ((((S1 154 ((8 * l5) + 3).toNatClampNeg) - (S1 148 13)) * l3) / l4)) → 
    (vp_in ((8 * l5) + 4) 112) ∧ ∀ S3, S3 = up2 S2 154 ((8 * l5) + 4).toNatClampNeg (if 1 ≤ (((S 154 ((8 * l5) + 4).toNatClampNeg) * l3) / l4) then (((S 154 ((8 * l5) + 4).toNatClampNeg) * l3) / l4) else 1 : Int32) → 
    (vp_in ((8 * l5) + 5) 112) ∧ ∀ S4, S4 = up2 S3 154 ((8 * l5) + 5).toNatClampNeg (if 1 ≤ (((S 154 ((8 * l5) + 5).toNatClampNeg) * l3) / l4) then (((S 154 ((8 * l5) + 5).toNatClampNeg) * l3) / l4) else 1 : Int32) → 
    r_scale_L9 post n S4 l2 l3 l4 (l5 + 1)))
set_option maxRecDepth 100000 in
set_option maxHeartbeats 1000000 in
theorem zr_scale_L9 {g : Gm} {G : Gp} {post : Mem → Prop} (hx : G.2.2.2 = false) (hG : isR G) : ∀ (n : Nat) {S : Mem} {l2 : Int32} {l3 : Int32} {l4 : Int32} {l5 : Int32} , r_scale_L9 post n S l2 l3 l4 l5 → Z g M_r_scale 0 0 9 [some (.ref 148), none, some (.int l2), some (.int l3), some (.int l4), some (.int l5), none, none] [] (S, G) (Qv G post noEx) := by
  intro n
  induction n with
  | zero =>
    intros
    rename_i hw
    exact hw.elim
  | succ n ih =>
    intro S l2 l3 l4 l5 hw
    rw [r_scale_L9] at hw
    refine z_iload rfl rfl ?_
    refine z_iload_n rfl rfl ?_
    refine z_icmp_ge rfl (fun hq => ?_) (fun hq => ?_)
    · replace hw := hw.1 hq
      exact z_vret rfl rfl rfl rfl (Or.inl ⟨_, rfl, rfl, hw⟩)
    · replace hw := hw.2 hq
      refine z_aload_n rfl rfl ?_
      refine z_iload rfl rfl ?_
      refine z_iconst 1 rfl rfl ?_
      obtain ⟨hc1, hw⟩ := hw
      refine z_cvi (M' := M_r_of) (post := fun v S' => (S 154 ((8 * l5) + 1).toNatClampNeg) = v ∧ S = S') [.int l5, .int 1] hx rfl w_754 cv_r_of hG.1 (by decide) rfl rfl rfl rfl (zr_of hx hG (⟨hc1, ⟨rfl, rfl⟩⟩)) ?_ (fun _ _ hf => hf.elim)
      rintro v S' ⟨rfl, rfl⟩
      refine z_iconst 3 rfl rfl ?_
      refine z_icmp_eq rfl (fun hq => ?_) (fun hq => ?_)
      · replace hw := hw.1 hq
        refine z_iinc 1 [some (.ref 148), none, some (.int l2), some (.int l3), some (.int l4), some (.int (l5 + 1)), none, none] rfl rfl rfl rfl ?_
        refine z_goto rfl ?_
        refine Z.forget' [some (.ref 148), none, some (.int l2), some (.int l3), some (.int l4), some (.int (l5 + 1)), none, none] ⟨rfl, ⟨rfl, ⟨rfl, ⟨rfl, ⟨rfl, trivial⟩⟩⟩⟩⟩ ?_
        exact ih hw
      · replace hw := hw.2 hq
        refine z_aload_n rfl rfl ?_
        refine z_iload rfl rfl ?_
        refine z_iconst 4 rfl rfl ?_
        obtain ⟨hc2, hw⟩ := hw
        refine z_cvi (M' := M_r_of) (post := fun v S' => (S 154 ((8 * l5) + 4).toNatClampNeg) = v ∧ S = S') [.int l5, .int 4] hx rfl w_754 cv_r_of hG.1 (by decide) rfl rfl rfl rfl (zr_of hx hG (⟨hc2, ⟨rfl, rfl⟩⟩)) ?_ (fun _ _ hf => hf.elim)
        rintro v S' ⟨rfl, rfl⟩
        refine z_iload_n rfl rfl ?_
        refine z_iload rfl rfl ?_
        obtain ⟨hc3, hw⟩ := hw
        refine z_csi (M' := M_r_scaled) (post := fun v S' => (((S 154 ((8 * l5) + 4).toNatClampNeg) * l3) / l4) = v ∧ S = S') [.int (S 154 ((8 * l5) + 4).toNatClampNeg), .int l3, .int l4] hx rfl w_808 cs_r_scaled rfl rfl rfl (zr_scaled hx hG (⟨hc3, ⟨rfl, rfl⟩⟩)) ?_ (fun _ _ hf => hf.elim)
        rintro v S' ⟨rfl, rfl⟩
        refine z_istore [some (.ref 148), none, some (.int l2), some (.int l3), some (.int l4), some (.int l5), some (.int (((S 154 ((8 * l5) + 4).toNatClampNeg) * l3) / l4)), none] rfl rfl rfl ?_
        refine z_aload_n rfl rfl ?_
        refine z_iload rfl rfl ?_
        refine z_iconst 5 rfl rfl ?_
        obtain ⟨hc4, hw⟩ := hw
        refine z_cvi (M' := M_r_of) (post := fun v S' => (S 154 ((8 * l5) + 5).toNatClampNeg) = v ∧ S = S') [.int l5, .int 5] hx rfl w_754 cv_r_of hG.1 (by decide) rfl rfl rfl rfl (zr_of hx hG (⟨hc4, ⟨rfl, rfl⟩⟩)) ?_ (fun _ _ hf => hf.elim)
        rintro v S' ⟨rfl, rfl⟩
        refine z_iload_n rfl rfl ?_
        refine z_iload rfl rfl ?_
        obtain ⟨hc5, hw⟩ := hw
        refine z_csi (M' := M_r_scaled) (post := fun v S' => (((S 154 ((8 * l5) + 5).toNatClampNeg) * l3) / l4) = v ∧ S = S') [.int (S 154 ((8 * l5) + 5).toNatClampNeg), .int l3, .int l4] hx rfl w_808 cs_r_scaled rfl rfl rfl (zr_scaled hx hG (⟨hc5, ⟨rfl, rfl⟩⟩)) ?_ (fun _ _ hf => hf.elim)
        rintro v S' ⟨rfl, rfl⟩
        refine z_istore [some (.ref 148), none, some (.int l2), some (.int l3), some (.int l4), some (.int l5), some (.int (((S 154 ((8 * l5) + 4).toNatClampNeg) * l3) / l4)), some (.int (((S 154 ((8 * l5) + 5).toNatClampNeg) * l3) / l4))] rfl rfl rfl ?_
        refine z_aload_n rfl rfl ?_
        refine z_iload rfl rfl ?_
        refine z_iconst 2 rfl rfl ?_
        refine z_aload_n rfl rfl ?_
        refine z_geti (ci := 7) 12 rfl hG.1 rfl w_670 ?_
        refine z_aload_n rfl rfl ?_
        refine z_iload rfl rfl ?_
        refine z_iconst 2 rfl rfl ?_
        obtain ⟨hc6, hw⟩ := hw
        refine z_cvi (M' := M_r_of) (post := fun v S' => (S 154 ((8 * l5) + 2).toNatClampNeg) = v ∧ S = S') [.int l5, .int 2] hx rfl w_754 cv_r_of hG.1 (by decide) rfl rfl rfl rfl (zr_of hx hG (⟨hc6, ⟨rfl, rfl⟩⟩)) ?_ (fun _ _ hf => hf.elim)
        rintro v S' ⟨rfl, rfl⟩
        refine z_aload_n rfl rfl ?_
        refine z_geti (ci := 7) 12 rfl hG.1 rfl w_670 ?_
        refine z_isub rfl ?_
        refine z_iload_n rfl rfl ?_
        refine z_iload rfl rfl ?_
        obtain ⟨hc7, hw⟩ := hw
        refine z_csi (M' := M_r_scaled) (post := fun v S' => ((((S 154 ((8 * l5) + 2).toNatClampNeg) - (S 148 12)) * l3) / l4) = v ∧ S = S') [.int ((S 154 ((8 * l5) + 2).toNatClampNeg) - (S 148 12)), .int l3, .int l4] hx rfl w_808 cs_r_scaled rfl rfl rfl (zr_scaled hx hG (⟨hc7, ⟨rfl, rfl⟩⟩)) ?_ (fun _ _ hf => hf.elim)
        rintro v S' ⟨rfl, rfl⟩
        refine z_iadd rfl ?_
        obtain ⟨hc8, hw⟩ := hw
        replace hw := hw _ rfl
        refine z_cvv (M' := M_r_put) (post := fun S' => (up2 S 154 ((8 * l5) + 2).toNatClampNeg ((S 148 12) + ((((S 154 ((8 * l5) + 2).toNatClampNeg) - (S 148 12)) * l3) / l4))) = S') [.int l5, .int 2, .int ((S 148 12) + ((((S 154 ((8 * l5) + 2).toNatClampNeg) - (S 148 12)) * l3) / l4))] hx rfl w_774 cv_r_put hG.1 (by decide) rfl rfl rfl rfl (zr_put hx hG (⟨hc8, fun _ hS => by subst hS; exact rfl⟩)) ?_ (fun _ _ hf => hf.elim)
        rintro S' rfl
        refine z_aload_n rfl rfl ?_
        refine z_iload rfl rfl ?_
        refine z_iconst 3 rfl rfl ?_
        refine z_aload_n rfl rfl ?_
        refine z_geti (ci := 7) 13 rfl hG.1 rfl w_671 ?_
        refine z_aload_n rfl rfl ?_
        refine z_iload rfl rfl ?_
        refine z_iconst 3 rfl rfl ?_
        obtain ⟨hc9, hw⟩ := hw
        refine z_cvi (M' := M_r_of) (post := fun v S' => ((up2 S 154 ((8 * l5) + 2).toNatClampNeg ((S 148 12) + ((((S 154 ((8 * l5) + 2).toNatClampNeg) - (S 148 12)) * l3) / l4))) 154 ((8 * l5) + 3).toNatClampNeg) = v ∧ (up2 S 154 ((8 * l5) + 2).toNatClampNeg ((S 148 12) + ((((S 154 ((8 * l5) + 2).toNatClampNeg) - (S 148 12)) * l3) / l4))) = S') [.int l5, .int 3] hx rfl w_754 cv_r_of hG.1 (by decide) rfl rfl rfl rfl (zr_of hx hG (⟨hc9, ⟨rfl, rfl⟩⟩)) ?_ (fun _ _ hf => hf.elim)
        rintro v S' ⟨rfl, rfl⟩
        refine z_aload_n rfl rfl ?_
        refine z_geti (ci := 7) 13 rfl hG.1 rfl w_671 ?_
        refine z_isub rfl ?_
        refine z_iload_n rfl rfl ?_
        refine z_iload rfl rfl ?_
        obtain ⟨hc10, hw⟩ := hw
        refine z_csi (M' := M_r_scaled) (post := fun v S' => (((((up2 S 154 ((8 * l5) + 2).toNatClampNeg ((S 148 12) + ((((S 154 ((8 * l5) + 2).toNatClampNeg) - (S 148 12)) * l3) / l4))) 154 ((8 * l5) + 3).toNatClampNeg) - ((up2 S 154 ((8 * l5) + 2).toNatClampNeg ((S 148 12) + ((((S 154 ((8 * l5) + 2).toNatClampNeg) - (S 148 12)) * l3) / l4))) 148 13)) * l3) / l4) = v ∧ (up2 S 154 ((8 * l5) + 2).toNatClampNeg ((S 148 12) + ((((S 154 ((8 * l5) + 2).toNatClampNeg) - (S 148 12)) * l3) / l4))) = S') [.int (((up2 S 154 ((8 * l5) + 2).toNatClampNeg ((S 148 12) + ((((S 154 ((8 * l5) + 2).toNatClampNeg) - (S 148 12)) * l3) / l4))) 154 ((8 * l5) + 3).toNatClampNeg) - ((up2 S 154 ((8 * l5) + 2).toNatClampNeg ((S 148 12) + ((((S 154 ((8 * l5) + 2).toNatClampNeg) - (S 148 12)) * l3) / l4))) 148 13)), .int l3, .int l4] hx rfl w_808 cs_r_scaled rfl rfl rfl (zr_scaled hx hG (⟨hc10, ⟨rfl, rfl⟩⟩)) ?_ (fun _ _ hf => hf.elim)
        rintro v S' ⟨rfl, rfl⟩
        refine z_iadd rfl ?_
        obtain ⟨hc11, hw⟩ := hw
        replace hw := hw _ rfl
        refine z_cvv (M' := M_r_put) (post := fun S' => (up2 (up2 S 154 ((8 * l5) + 2).toNatClampNeg ((S 148 12) + ((((S 154 ((8 * l5) + 2).toNatClampNeg) - (S 148 12)) * l3) / l4))) 154 ((8 * l5) + 3).toNatClampNeg (((up2 S 154 ((8 * l5) + 2).toNatClampNeg ((S 148 12) + ((((S 154 ((8 * l5) + 2).toNatClampNeg) - (S 148 12)) * l3) / l4))) 148 13) + (((((up2 S 154 ((8 * l5) + 2).toNatClampNeg ((S 148 12) + ((((S 154 ((8 * l5) + 2).toNatClampNeg) - (S 148 12)) * l3) / l4))) 154 ((8 * l5) + 3).toNatClampNeg) - ((up2 S 154 ((8 * l5) + 2).toNatClampNeg ((S 148 12) + ((((S 154 ((8 * l5) + 2).toNatClampNeg) - (S 148 12)) * l3) / l4))) 148 13)) * l3) / l4))) = S') [.int l5, .int 3, .int (((up2 S 154 ((8 * l5) + 2).toNatClampNeg ((S 148 12) + ((((S 154 ((8 * l5) + 2).toNatClampNeg) - (S 148 12)) * l3) / l4))) 148 13) + (((((up2 S 154 ((8 * l5) + 2).toNatClampNeg ((S 148 12) + ((((S 154 ((8 * l5) + 2).toNatClampNeg) - (S 148 12)) * l3) / l4))) 154 ((8 * l5) + 3).toNatClampNeg) - ((up2 S 154 ((8 * l5) + 2).toNatClampNeg ((S 148 12) + ((((S 154 ((8 * l5) + 2).toNatClampNeg) - (S 148 12)) * l3) / l4))) 148 13)) * l3) / l4))] hx rfl w_774 cv_r_put hG.1 (by decide) rfl rfl rfl rfl (zr_put hx hG (⟨hc11, fun _ hS => by subst hS; exact rfl⟩)) ?_ (fun _ _ hf => hf.elim)
        rintro S' rfl
        refine z_aload_n rfl rfl ?_
        refine z_iload rfl rfl ?_
        refine z_iconst 4 rfl rfl ?_
        refine z_iload rfl rfl ?_
        refine z_iconst 1 rfl rfl ?_
        have hj123 : ∀ v : Int32, v = (if 1 ≤ (((S 154 ((8 * l5) + 4).toNatClampNeg) * l3) / l4) then (((S 154 ((8 * l5) + 4).toNatClampNeg) * l3) / l4) else 1 : Int32) → Z g M_r_scale 0 0 132 [some (.ref 148), none, some (.int l2), some (.int l3), some (.int l4), some (.int l5), some (.int (((S 154 ((8 * l5) + 4).toNatClampNeg) * l3) / l4)), some (.int (((S 154 ((8 * l5) + 5).toNatClampNeg) * l3) / l4))] [.int v, .int 4, .int l5, .ref 148] ((up2 (up2 S 154 ((8 * l5) + 2).toNatClampNeg ((S 148 12) + ((((S 154 ((8 * l5) + 2).toNatClampNeg) - (S 148 12)) * l3) / l4))) 154 ((8 * l5) + 3).toNatClampNeg (((up2 S 154 ((8 * l5) + 2).toNatClampNeg ((S 148 12) + ((((S 154 ((8 * l5) + 2).toNatClampNeg) - (S 148 12)) * l3) / l4))) 148 13) + (((((up2 S 154 ((8 * l5) + 2).toNatClampNeg ((S 148 12) + ((((S 154 ((8 * l5) + 2).toNatClampNeg) - (S 148 12)) * l3) / l4))) 154 ((8 * l5) + 3).toNatClampNeg) - ((up2 S 154 ((8 * l5) + 2).toNatClampNeg ((S 148 12) + ((((S 154 ((8 * l5) + 2).toNatClampNeg) - (S 148 12)) * l3) / l4))) 148 13)) * l3) / l4))), G) (Qv G post noEx) := by
          intro v hv
          subst hv
          obtain ⟨hc12, hw⟩ := hw
          replace hw := hw _ rfl
          refine z_cvv (M' := M_r_put) (post := fun S' => (up2 (up2 (up2 S 154 ((8 * l5) + 2).toNatClampNeg ((S 148 12) + ((((S 154 ((8 * l5) + 2).toNatClampNeg) - (S 148 12)) * l3) / l4))) 154 ((8 * l5) + 3).toNatClampNeg (((up2 S 154 ((8 * l5) + 2).toNatClampNeg ((S 148 12) + ((((S 154 ((8 * l5) + 2).toNatClampNeg) - (S 148 12)) * l3) / l4))) 148 13) + (((((up2 S 154 ((8 * l5) + 2).toNatClampNeg ((S 148 12) + ((((S 154 ((8 * l5) + 2).toNatClampNeg) - (S 148 12)) * l3) / l4))) 154 ((8 * l5) + 3).toNatClampNeg) - ((up2 S 154 ((8 * l5) + 2).toNatClampNeg ((S 148 12) + ((((S 154 ((8 * l5) + 2).toNatClampNeg) - (S 148 12)) * l3) / l4))) 148 13)) * l3) / l4))) 154 ((8 * l5) + 4).toNatClampNeg (if 1 ≤ (((S 154 ((8 * l5) + 4).toNatClampNeg) * l3) / l4) then (((S 154 ((8 * l5) + 4).toNatClampNeg) * l3) / l4) else 1 : Int32)) = S') [.int l5, .int 4, .int (if 1 ≤ (((S 154 ((8 * l5) + 4).toNatClampNeg) * l3) / l4) then (((S 154 ((8 * l5) + 4).toNatClampNeg) * l3) / l4) else 1 : Int32)] hx rfl w_774 cv_r_put hG.1 (by decide) rfl rfl rfl rfl (zr_put hx hG (⟨hc12, fun _ hS => by subst hS; exact rfl⟩)) ?_ (fun _ _ hf => hf.elim)
          rintro S' rfl
          refine z_aload_n rfl rfl ?_
          refine z_iload rfl rfl ?_
          refine z_iconst 5 rfl rfl ?_
          refine z_iload rfl rfl ?_
          refine z_iconst 1 rfl rfl ?_
          have hj142 : ∀ v : Int32, v = (if 1 ≤ (((S 154 ((8 * l5) + 5).toNatClampNeg) * l3) / l4) then (((S 154 ((8 * l5) + 5).toNatClampNeg) * l3) / l4) else 1 : Int32) → Z g M_r_scale 0 0 151 [some (.ref 148), none, some (.int l2), some (.int l3), some (.int l4), some (.int l5), some (.int (((S 154 ((8 * l5) + 4).toNatClampNeg) * l3) / l4)), some (.int (((S 154 ((8 * l5) + 5).toNatClampNeg) * l3) / l4))] [.int v, .int 5, .int l5, .ref 148] ((up2 (up2 (up2 S 154 ((8 * l5) + 2).toNatClampNeg ((S 148 12) + ((((S 154 ((8 * l5) + 2).toNatClampNeg) - (S 148 12)) * l3) / l4))) 154 ((8 * l5) + 3).toNatClampNeg (((up2 S 154 ((8 * l5) + 2).toNatClampNeg ((S 148 12) + ((((S 154 ((8 * l5) + 2).toNatClampNeg) - (S 148 12)) * l3) / l4))) 148 13) + (((((up2 S 154 ((8 * l5) + 2).toNatClampNeg ((S 148 12) + ((((S 154 ((8 * l5) + 2).toNatClampNeg) - (S 148 12)) * l3) / l4))) 154 ((8 * l5) + 3).toNatClampNeg) - ((up2 S 154 ((8 * l5) + 2).toNatClampNeg ((S 148 12) + ((((S 154 ((8 * l5) + 2).toNatClampNeg) - (S 148 12)) * l3) / l4))) 148 13)) * l3) / l4))) 154 ((8 * l5) + 4).toNatClampNeg (if 1 ≤ (((S 154 ((8 * l5) + 4).toNatClampNeg) * l3) / l4) then (((S 154 ((8 * l5) + 4).toNatClampNeg) * l3) / l4) else 1 : Int32)), G) (Qv G post noEx) := by
            intro v hv
            subst hv
            obtain ⟨hc13, hw⟩ := hw
            replace hw := hw _ rfl
            refine z_cvv (M' := M_r_put) (post := fun S' => (up2 (up2 (up2 (up2 S 154 ((8 * l5) + 2).toNatClampNeg ((S 148 12) + ((((S 154 ((8 * l5) + 2).toNatClampNeg) - (S 148 12)) * l3) / l4))) 154 ((8 * l5) + 3).toNatClampNeg (((up2 S 154 ((8 * l5) + 2).toNatClampNeg ((S 148 12) + ((((S 154 ((8 * l5) + 2).toNatClampNeg) - (S 148 12)) * l3) / l4))) 148 13) + (((((up2 S 154 ((8 * l5) + 2).toNatClampNeg ((S 148 12) + ((((S 154 ((8 * l5) + 2).toNatClampNeg) - (S 148 12)) * l3) / l4))) 154 ((8 * l5) + 3).toNatClampNeg) - ((up2 S 154 ((8 * l5) + 2).toNatClampNeg ((S 148 12) + ((((S 154 ((8 * l5) + 2).toNatClampNeg) - (S 148 12)) * l3) / l4))) 148 13)) * l3) / l4))) 154 ((8 * l5) + 4).toNatClampNeg (if 1 ≤ (((S 154 ((8 * l5) + 4).toNatClampNeg) * l3) / l4) then (((S 154 ((8 * l5) + 4).toNatClampNeg) * l3) / l4) else 1 : Int32)) 154 ((8 * l5) + 5).toNatClampNeg (if 1 ≤ (((S 154 ((8 * l5) + 5).toNatClampNeg) * l3) / l4) then (((S 154 ((8 * l5) + 5).toNatClampNeg) * l3) / l4) else 1 : Int32)) = S') [.int l5, .int 5, .int (if 1 ≤ (((S 154 ((8 * l5) + 5).toNatClampNeg) * l3) / l4) then (((S 154 ((8 * l5) + 5).toNatClampNeg) * l3) / l4) else 1 : Int32)] hx rfl w_774 cv_r_put hG.1 (by decide) rfl rfl rfl rfl (zr_put hx hG (⟨hc13, fun _ hS => by subst hS; exact rfl⟩)) ?_ (fun _ _ hf => hf.elim)
            rintro S' rfl
            refine z_iinc 1 [some (.ref 148), none, some (.int l2), some (.int l3), some (.int l4), some (.int (l5 + 1)), some (.int (((S 154 ((8 * l5) + 4).toNatClampNeg) * l3) / l4)), some (.int (((S 154 ((8 * l5) + 5).toNatClampNeg) * l3) / l4))] rfl rfl rfl rfl ?_
            refine z_goto rfl ?_
            refine Z.forget' [some (.ref 148), none, some (.int l2), some (.int l3), some (.int l4), some (.int (l5 + 1)), none, none] ⟨rfl, ⟨rfl, ⟨rfl, ⟨rfl, ⟨rfl, trivial⟩⟩⟩⟩⟩ ?_
            exact ih hw
          refine z_icmp_ge rfl (fun hp142 => ?_) (fun hp142 => ?_)
          · refine z_iload rfl rfl ?_
            exact hj142 _ (by rw [if_pos hp142])
          · refine z_iconst 1 rfl rfl ?_
            refine z_goto rfl ?_
            exact hj142 _ (by rw [if_neg hp142])
        refine z_icmp_ge rfl (fun hp123 => ?_) (fun hp123 => ?_)
        · refine z_iload rfl rfl ?_
          exact hj123 _ (by rw [if_pos hp123])
        · refine z_iconst 1 rfl rfl ?_
          refine z_goto rfl ?_
          exact hj123 _ (by rw [if_neg hp123])
def r_scale (post : Mem → Prop) (S : Mem) (l1 : Int32) (l2 : Int32) (l3 : Int32) (l4 : Int32) : Prop :=
  r_findBox (fun S1 =>
   ∃ n, r_scale_L9 post n S1 l2 l3 l4 l1) S l1 l2
set_option maxRecDepth 100000 in
set_option maxHeartbeats 1000000 in
theorem zr_scale {g : Gm} {G : Gp} {S : Mem} {post : Mem → Prop} {l1 : Int32} {l2 : Int32} {l3 : Int32} {l4 : Int32} (hx : G.2.2.2 = false) (hG : isR G) (hw : r_scale post S l1 l2 l3 l4) : Z g M_r_scale 0 0 0 (entryL [.ref 148, .int l1, .int l2, .int l3, .int l4] (mL M_r_scale)) [] (S, G) (Qv G post noEx) := by
  unfold r_scale at hw
  show Z g M_r_scale 0 0 0 [some (.ref 148), some (.int l1), some (.int l2), some (.int l3), some (.int l4), none, none, none] [] (S, G) (Qv G post noEx)
  refine z_aload_n rfl rfl ?_
  refine z_iload_n rfl rfl ?_
  refine z_iload_n rfl rfl ?_
  refine z_cvv (M' := M_r_findBox) [.int l1, .int l2] hx rfl w_802 cv_r_findBox hG.1 (by decide) rfl rfl rfl rfl (zr_findBox hx hG hw) ?_ (fun _ _ hf => hf.elim)
  clear hw
  intro S1 hw
  refine z_iload_n rfl rfl ?_
  refine z_istore [some (.ref 148), some (.int l1), some (.int l2), some (.int l3), some (.int l4), some (.int l1), none, none] rfl rfl rfl ?_
  refine Z.forget' [some (.ref 148), none, some (.int l2), some (.int l3), some (.int l4), some (.int l1), none, none] ⟨rfl, ⟨rfl, ⟨rfl, ⟨rfl, ⟨rfl, trivial⟩⟩⟩⟩⟩ ?_
  obtain ⟨n, hw⟩ := hw
  exact zr_scale_L9 hx hG n hw
def r_raise_J70 (post : Mem → Prop)  (S : Mem) (l4 : Int32) (k1 : Int32) : Prop :=
  r_lay (fun S1 =>
   post S1) S k1 l4
set_option maxRecDepth 100000 in
set_option maxHeartbeats 1000000 in
theorem zr_raise_J70 {g : Gm} {G : Gp} {post : Mem → Prop} (hx : G.2.2.2 = false) (hG : isR G) {S : Mem} {l4 : Int32} {k1 : Int32}  (hw : r_raise_J70 post S l4 k1) : Z g M_r_raise 0 0 70 [some (.ref 148), none, none, none, some (.int l4), none] [.int k1, .ref 148] (S, G) (Qv G post noEx) := by
  unfold r_raise_J70 at hw
  refine z_iload rfl rfl ?_
  refine z_cvv (M' := M_r_lay) [.int k1, .int l4] hx rfl w_819 cv_r_lay hG.1 (by decide) rfl rfl rfl rfl (zr_lay hx hG hw) ?_ (fun _ _ hf => hf.elim)
  clear hw
  intro S1 hw
  exact z_vret rfl rfl rfl rfl (Or.inl ⟨_, rfl, rfl, hw⟩)
def r_raise_J39 (post : Mem → Prop)  (S : Mem) (l2 : Int32) (l3 : Int32) (l4 : Int32) (k0 : Int32) : Prop :=
  ((l2 = 0) →
   r_raise_J70 post S l4 (k0 + 1)) ∧
  ((¬ l2 = 0) →
   ((0 ≤ l3) →
    r_behind (fun r1 S1 =>
     r_raise_J70 post S1 l4 r1) S k0) ∧
   ((¬ 0 ≤ l3) →
    r_raise_J70 post S l4 (S 148 7)))
set_option maxRecDepth 100000 in
set_option maxHeartbeats 1000000 in
theorem zr_raise_J39 {g : Gm} {G : Gp} {post : Mem → Prop} (hx : G.2.2.2 = false) (hG : isR G) {S : Mem} {l2 : Int32} {l3 : Int32} {l4 : Int32} {k0 : Int32}  (hw : r_raise_J39 post S l2 l3 l4 k0) : Z g M_r_raise 0 0 39 [some (.ref 148), none, some (.int l2), some (.int l3), some (.int l4), none] [.int k0] (S, G) (Qv G post noEx) := by
  unfold r_raise_J39 at hw
  refine z_istore [some (.ref 148), none, some (.int l2), some (.int l3), some (.int l4), some (.int k0)] rfl rfl rfl ?_
  refine z_aload_n rfl rfl ?_
  refine z_iload_n rfl rfl ?_
  refine z_if_eq rfl (fun hq => ?_) (fun hq => ?_)
  · replace hw := hw.1 hq
    refine z_iload rfl rfl ?_
    refine z_iconst 1 rfl rfl ?_
    refine z_iadd rfl ?_
    refine Z.forget' [some (.ref 148), none, none, none, some (.int l4), none] ⟨rfl, ⟨rfl, trivial⟩⟩ ?_
    exact zr_raise_J70 hx hG hw
  · replace hw := hw.2 hq
    refine z_iload_n rfl rfl ?_
    refine z_if_ge rfl (fun hq => ?_) (fun hq => ?_)
    · replace hw := hw.1 hq
      refine z_aload_n rfl rfl ?_
      refine z_iload rfl rfl ?_
      refine z_cvi (M' := M_r_behind) [.int k0] hx rfl w_782 cv_r_behind hG.1 (by decide) rfl rfl rfl rfl (zr_behind hx hG hw) ?_ (fun _ _ hf => hf.elim)
      clear hw
      intro r1 S1 hw
      refine z_goto rfl ?_
      refine Z.forget' [some (.ref 148), none, none, none, some (.int l4), none] ⟨rfl, ⟨rfl, trivial⟩⟩ ?_
      exact zr_raise_J70 hx hG hw
    · replace hw := hw.2 hq
      refine z_aload_n rfl rfl ?_
      refine z_geti (ci := 7) 7 rfl hG.1 rfl w_665 ?_
      refine z_goto rfl ?_
      refine Z.forget' [some (.ref 148), none, none, none, some (.int l4), none] ⟨rfl, ⟨rfl, trivial⟩⟩ ?_
      exact zr_raise_J70 hx hG hw
def r_raise (post : Mem → Prop) (S : Mem) (l1 : Int32) (l2 : Int32) : Prop :=
  (vp_in ((8 * l1) + 7) 112) ∧ 
  r_behind (fun r1 S1 =>
   r_lift (fun S2 =>
    ((0 ≤ (S 154 ((8 * l1) + 7).toNatClampNeg)) →
     r_find (fun r3 S3 =>
      r_raise_J39 post S3 l2 (S 154 ((8 * l1) + 7).toNatClampNeg) (r1 - l1) r3) S2 (S 154 ((8 * l1) + 7).toNatClampNeg)) ∧
    ((¬ 0 ≤ (S 154 ((8 * l1) + 7).toNatClampNeg)) →
     r_raise_J39 post S2 l2 (S 154 ((8 * l1) + 7).toNatClampNeg) (r1 - l1) (-1))) S1 l1 (l1 + (r1 - l1))) S l1
set_option maxRecDepth 100000 in
set_option maxHeartbeats 1000000 in
theorem zr_raise {g : Gm} {G : Gp} {S : Mem} {post : Mem → Prop} {l1 : Int32} {l2 : Int32} (hx : G.2.2.2 = false) (hG : isR G) (hw : r_raise post S l1 l2) : Z g M_r_raise 0 0 0 (entryL [.ref 148, .int l1, .int l2] (mL M_r_raise)) [] (S, G) (Qv G post noEx) := by
  unfold r_raise at hw
  show Z g M_r_raise 0 0 0 [some (.ref 148), some (.int l1), some (.int l2), none, none, none] [] (S, G) (Qv G post noEx)
  refine z_aload_n rfl rfl ?_
  refine z_iload_n rfl rfl ?_
  refine z_bipush 7 rfl rfl ?_
  obtain ⟨hc1, hw⟩ := hw
  refine z_cvi (M' := M_r_of) (post := fun v S' => (S 154 ((8 * l1) + 7).toNatClampNeg) = v ∧ S = S') [.int l1, .int 7] hx rfl w_754 cv_r_of hG.1 (by decide) rfl rfl rfl rfl (zr_of hx hG (⟨hc1, ⟨rfl, rfl⟩⟩)) ?_ (fun _ _ hf => hf.elim)
  rintro v S' ⟨rfl, rfl⟩
  refine z_istore_n [some (.ref 148), some (.int l1), some (.int l2), some (.int (S 154 ((8 * l1) + 7).toNatClampNeg)), none, none] rfl rfl rfl ?_
  refine z_aload_n rfl rfl ?_
  refine z_iload_n rfl rfl ?_
  refine z_cvi (M' := M_r_behind) [.int l1] hx rfl w_782 cv_r_behind hG.1 (by decide) rfl rfl rfl rfl (zr_behind hx hG hw) ?_ (fun _ _ hf => hf.elim)
  clear hw
  intro r1 S1 hw
  refine z_iload_n rfl rfl ?_
  refine z_isub rfl ?_
  refine z_istore [some (.ref 148), some (.int l1), some (.int l2), some (.int (S 154 ((8 * l1) + 7).toNatClampNeg)), some (.int (r1 - l1)), none] rfl rfl rfl ?_
  refine z_aload_n rfl rfl ?_
  refine z_iload_n rfl rfl ?_
  refine z_iload_n rfl rfl ?_
  refine z_iload rfl rfl ?_
  refine z_iadd rfl ?_
  refine z_cvv (M' := M_r_lift) [.int l1, .int (l1 + (r1 - l1))] hx rfl w_815 cv_r_lift hG.1 (by decide) rfl rfl rfl rfl (zr_lift hx hG hw) ?_ (fun _ _ hf => hf.elim)
  clear hw
  intro S2 hw
  refine z_iload_n rfl rfl ?_
  refine z_if_ge rfl (fun hq => ?_) (fun hq => ?_)
  · replace hw := hw.1 hq
    refine z_aload_n rfl rfl ?_
    refine z_iload_n rfl rfl ?_
    refine z_cvi (M' := M_r_find) [.int (S 154 ((8 * l1) + 7).toNatClampNeg)] hx rfl w_750 cv_r_find hG.1 (by decide) rfl rfl rfl rfl (zr_find hx hG hw) ?_ (fun _ _ hf => hf.elim)
    clear hw
    intro r3 S3 hw
    refine Z.forget' [some (.ref 148), none, some (.int l2), some (.int (S 154 ((8 * l1) + 7).toNatClampNeg)), some (.int (r1 - l1)), none] ⟨rfl, ⟨rfl, ⟨rfl, ⟨rfl, trivial⟩⟩⟩⟩ ?_
    exact zr_raise_J39 hx hG hw
  · replace hw := hw.2 hq
    refine z_iconst (-1) rfl rfl ?_
    refine z_goto rfl ?_
    refine Z.forget' [some (.ref 148), none, some (.int l2), some (.int (S 154 ((8 * l1) + 7).toNatClampNeg)), some (.int (r1 - l1)), none] ⟨rfl, ⟨rfl, ⟨rfl, ⟨rfl, trivial⟩⟩⟩⟩ ?_
    exact zr_raise_J39 hx hG hw
def r_group (post : Mem → Prop) (S : Mem) (l1 : Int32) (l2 : Int32) (l3 : Int32) : Prop :=
  r_behind (fun r1 S1 =>
   r_lift (fun S2 =>
    r_lay (fun S3 =>
     (vp_in ((8 * ((if l3 ≤ l2 then l2 else l3 : Int32) - (r1 - (if l3 ≤ l2 then l3 else l2 : Int32)))) + 7) 112) ∧ ∀ S4, S4 = up2 S3 154 ((8 * ((if l3 ≤ l2 then l2 else l3 : Int32) - (r1 - (if l3 ≤ l2 then l3 else l2 : Int32)))) + 7).toNatClampNeg l1 → 
     (vp_in ((8 * (((if l3 ≤ l2 then l2 else l3 : Int32) - (r1 - (if l3 ≤ l2 then l3 else l2 : Int32))) + (r1 - (if l3 ≤ l2 then l3 else l2 : Int32)))) + 7) 112) ∧ ∀ S5, S5 = up2 S4 154 ((8 * (((if l3 ≤ l2 then l2 else l3 : Int32) - (r1 - (if l3 ≤ l2 then l3 else l2 : Int32))) + (r1 - (if l3 ≤ l2 then l3 else l2 : Int32)))) + 7).toNatClampNeg l1 → 
     r_makeRoom (fun S6 =>
      (vp_in ((8 * ((if l3 ≤ l2 then l2 else l3 : Int32) - (r1 - (if l3 ≤ l2 then l3 else l2 : Int32)))) + 0) 112) ∧ ∀ S7, S7 = up2 S6 154 ((8 * ((if l3 ≤ l2 then l2 else l3 : Int32) - (r1 - (if l3 ≤ l2 then l3 else l2 : Int32)))) + 0).toNatClampNeg l1 → 
      (vp_in ((8 * ((if l3 ≤ l2 then l2 else l3 : Int32) - (r1 - (if l3 ≤ l2 then l3 else l2 : Int32)))) + 1) 112) ∧ ∀ S8, S8 = up2 S7 154 ((8 * ((if l3 ≤ l2 then l2 else l3 : Int32) - (r1 - (if l3 ≤ l2 then l3 else l2 : Int32)))) + 1).toNatClampNeg 3 → 
      (vp_in ((8 * ((if l3 ≤ l2 then l2 else l3 : Int32) - (r1 - (if l3 ≤ l2 then l3 else l2 : Int32)))) + 2) 112) ∧ ∀ S9, S9 = up2 S8 154 ((8 * ((if l3 ≤ l2 then l2 else l3 : Int32) - (r1 - (if l3 ≤ l2 then l3 else l2 : Int32)))) + 2).toNatClampNeg 0 → 
      (vp_in ((8 * ((if l3 ≤ l2 then l2 else l3 : Int32) - (r1 - (if l3 ≤ l2 then l3 else l2 : Int32)))) + 3) 112) ∧ ∀ S10, S10 = up2 S9 154 ((8 * ((if l3 ≤ l2 then l2 else l3 : Int32) - (r1 - (if l3 ≤ l2 then l3 else l2 : Int32)))) + 3).toNatClampNeg 0 → 
      (vp_in ((8 * ((if l3 ≤ l2 then l2 else l3 : Int32) - (r1 - (if l3 ≤ l2 then l3 else l2 : Int32)))) + 4) 112) ∧ ∀ S11, S11 = up2 S10 154 ((8 * ((if l3 ≤ l2 then l2 else l3 : Int32) - (r1 - (if l3 ≤ l2 then l3 else l2 : Int32)))) + 4).toNatClampNeg 0 → 
      (vp_in ((8 * ((if l3 ≤ l2 then l2 else l3 : Int32) - (r1 - (if l3 ≤ l2 then l3 else l2 : Int32)))) + 5) 112) ∧ ∀ S12, S12 = up2 S11 154 ((8 * ((if l3 ≤ l2 then l2 else l3 : Int32) - (r1 - (if l3 ≤ l2 then l3 else l2 : Int32)))) + 5).toNatClampNeg 0 → 
      (vp_in ((8 * ((if l3 ≤ l2 then l2 else l3 : Int32) - (r1 - (if l3 ≤ l2 then l3 else l2 : Int32)))) + 6) 112) ∧ ∀ S13, S13 = up2 S12 154 ((8 * ((if l3 ≤ l2 then l2 else l3 : Int32) - (r1 - (if l3 ≤ l2 then l3 else l2 : Int32)))) + 6).toNatClampNeg (-1) → 
      (vp_in ((8 * ((if l3 ≤ l2 then l2 else l3 : Int32) - (r1 - (if l3 ≤ l2 then l3 else l2 : Int32)))) + 7) 112) ∧ ∀ S14, S14 = up2 S13 154 ((8 * ((if l3 ≤ l2 then l2 else l3 : Int32) - (r1 - (if l3 ≤ l2 then l3 else l2 : Int32)))) + 7).toNatClampNeg (-1) → 
      post S14) S5 ((if l3 ≤ l2 then l2 else l3 : Int32) - (r1 - (if l3 ≤ l2 then l3 else l2 : Int32))) 1) S2 ((if l3 ≤ l2 then l2 else l3 : Int32) - (r1 - (if l3 ≤ l2 then l3 else l2 : Int32))) (r1 - (if l3 ≤ l2 then l3 else l2 : Int32))) S1 (if l3 ≤ l2 then l3 else l2 : Int32) ((if l3 ≤ l2 then l3 else l2 : Int32) + (r1 - (if l3 ≤ l2 then l3 else l2 : Int32)))) S (if l3 ≤ l2 then l3 else l2 : Int32)
set_option maxRecDepth 100000 in
set_option maxHeartbeats 1000000 in
theorem zr_group {g : Gm} {G : Gp} {S : Mem} {post : Mem → Prop} {l1 : Int32} {l2 : Int32} {l3 : Int32} (hx : G.2.2.2 = false) (hG : isR G) (hw : r_group post S l1 l2 l3) : Z g M_r_group 0 0 0 (entryL [.ref 148, .int l1, .int l2, .int l3] (mL M_r_group)) [] (S, G) (Qv G post noEx) := by
  unfold r_group at hw
  show Z g M_r_group 0 0 0 [some (.ref 148), some (.int l1), some (.int l2), some (.int l3), none, none, none, none, none] [] (S, G) (Qv G post noEx)
  refine z_iload_n rfl rfl ?_
  refine z_iload_n rfl rfl ?_
  have hj2 : ∀ v : Int32, v = (if l3 ≤ l2 then l3 else l2 : Int32) → Z g M_r_group 0 0 10 [some (.ref 148), some (.int l1), some (.int l2), some (.int l3), none, none, none, none, none] [.int v] (S, G) (Qv G post noEx) := by
    intro v hv
    subst hv
    refine z_istore [some (.ref 148), some (.int l1), some (.int l2), some (.int l3), some (.int (if l3 ≤ l2 then l3 else l2 : Int32)), none, none, none, none] rfl rfl rfl ?_
    refine z_iload_n rfl rfl ?_
    refine z_iload_n rfl rfl ?_
    have hj14 : ∀ v : Int32, v = (if l3 ≤ l2 then l2 else l3 : Int32) → Z g M_r_group 0 0 22 [some (.ref 148), some (.int l1), some (.int l2), some (.int l3), some (.int (if l3 ≤ l2 then l3 else l2 : Int32)), none, none, none, none] [.int v] (S, G) (Qv G post noEx) := by
      intro v hv
      subst hv
      refine z_istore [some (.ref 148), some (.int l1), some (.int l2), some (.int l3), some (.int (if l3 ≤ l2 then l3 else l2 : Int32)), some (.int (if l3 ≤ l2 then l2 else l3 : Int32)), none, none, none] rfl rfl rfl ?_
      refine z_aload_n rfl rfl ?_
      refine z_iload rfl rfl ?_
      refine z_cvi (M' := M_r_behind) [.int (if l3 ≤ l2 then l3 else l2 : Int32)] hx rfl w_782 cv_r_behind hG.1 (by decide) rfl rfl rfl rfl (zr_behind hx hG hw) ?_ (fun _ _ hf => hf.elim)
      clear hw
      intro r1 S1 hw
      refine z_iload rfl rfl ?_
      refine z_isub rfl ?_
      refine z_istore [some (.ref 148), some (.int l1), some (.int l2), some (.int l3), some (.int (if l3 ≤ l2 then l3 else l2 : Int32)), some (.int (if l3 ≤ l2 then l2 else l3 : Int32)), some (.int (r1 - (if l3 ≤ l2 then l3 else l2 : Int32))), none, none] rfl rfl rfl ?_
      refine z_aload_n rfl rfl ?_
      refine z_iload rfl rfl ?_
      refine z_iload rfl rfl ?_
      refine z_iload rfl rfl ?_
      refine z_iadd rfl ?_
      refine z_cvv (M' := M_r_lift) [.int (if l3 ≤ l2 then l3 else l2 : Int32), .int ((if l3 ≤ l2 then l3 else l2 : Int32) + (r1 - (if l3 ≤ l2 then l3 else l2 : Int32)))] hx rfl w_815 cv_r_lift hG.1 (by decide) rfl rfl rfl rfl (zr_lift hx hG hw) ?_ (fun _ _ hf => hf.elim)
      clear hw
      intro S2 hw
      refine z_iload rfl rfl ?_
      refine z_iload rfl rfl ?_
      refine z_isub rfl ?_
      refine z_istore [some (.ref 148), some (.int l1), some (.int l2), some (.int l3), some (.int (if l3 ≤ l2 then l3 else l2 : Int32)), some (.int (if l3 ≤ l2 then l2 else l3 : Int32)), some (.int (r1 - (if l3 ≤ l2 then l3 else l2 : Int32))), some (.int ((if l3 ≤ l2 then l2 else l3 : Int32) - (r1 - (if l3 ≤ l2 then l3 else l2 : Int32)))), none] rfl rfl rfl ?_
      refine z_aload_n rfl rfl ?_
      refine z_iload rfl rfl ?_
      refine z_iload rfl rfl ?_
      refine z_cvv (M' := M_r_lay) [.int ((if l3 ≤ l2 then l2 else l3 : Int32) - (r1 - (if l3 ≤ l2 then l3 else l2 : Int32))), .int (r1 - (if l3 ≤ l2 then l3 else l2 : Int32))] hx rfl w_819 cv_r_lay hG.1 (by decide) rfl rfl rfl rfl (zr_lay hx hG hw) ?_ (fun _ _ hf => hf.elim)
      clear hw
      intro S3 hw
      refine z_iload rfl rfl ?_
      refine z_iload rfl rfl ?_
      refine z_iadd rfl ?_
      refine z_istore [some (.ref 148), some (.int l1), some (.int l2), some (.int l3), some (.int (if l3 ≤ l2 then l3 else l2 : Int32)), some (.int (if l3 ≤ l2 then l2 else l3 : Int32)), some (.int (r1 - (if l3 ≤ l2 then l3 else l2 : Int32))), some (.int ((if l3 ≤ l2 then l2 else l3 : Int32) - (r1 - (if l3 ≤ l2 then l3 else l2 : Int32)))), some (.int (((if l3 ≤ l2 then l2 else l3 : Int32) - (r1 - (if l3 ≤ l2 then l3 else l2 : Int32))) + (r1 - (if l3 ≤ l2 then l3 else l2 : Int32))))] rfl rfl rfl ?_
      refine z_aload_n rfl rfl ?_
      refine z_iload rfl rfl ?_
      refine z_bipush 7 rfl rfl ?_
      refine z_iload_n rfl rfl ?_
      obtain ⟨hc1, hw⟩ := hw
      replace hw := hw _ rfl
      refine z_cvv (M' := M_r_put) (post := fun S' => (up2 S3 154 ((8 * ((if l3 ≤ l2 then l2 else l3 : Int32) - (r1 - (if l3 ≤ l2 then l3 else l2 : Int32)))) + 7).toNatClampNeg l1) = S') [.int ((if l3 ≤ l2 then l2 else l3 : Int32) - (r1 - (if l3 ≤ l2 then l3 else l2 : Int32))), .int 7, .int l1] hx rfl w_774 cv_r_put hG.1 (by decide) rfl rfl rfl rfl (zr_put hx hG (⟨hc1, fun _ hS => by subst hS; exact rfl⟩)) ?_ (fun _ _ hf => hf.elim)
      rintro S' rfl
      refine z_aload_n rfl rfl ?_
      refine z_iload rfl rfl ?_
      refine z_bipush 7 rfl rfl ?_
      refine z_iload_n rfl rfl ?_
      obtain ⟨hc2, hw⟩ := hw
      replace hw := hw _ rfl
      refine z_cvv (M' := M_r_put) (post := fun S' => (up2 (up2 S3 154 ((8 * ((if l3 ≤ l2 then l2 else l3 : Int32) - (r1 - (if l3 ≤ l2 then l3 else l2 : Int32)))) + 7).toNatClampNeg l1) 154 ((8 * (((if l3 ≤ l2 then l2 else l3 : Int32) - (r1 - (if l3 ≤ l2 then l3 else l2 : Int32))) + (r1 - (if l3 ≤ l2 then l3 else l2 : Int32)))) + 7).toNatClampNeg l1) = S') [.int (((if l3 ≤ l2 then l2 else l3 : Int32) - (r1 - (if l3 ≤ l2 then l3 else l2 : Int32))) + (r1 - (if l3 ≤ l2 then l3 else l2 : Int32))), .int 7, .int l1] hx rfl w_774 cv_r_put hG.1 (by decide) rfl rfl rfl rfl (zr_put hx hG (⟨hc2, fun _ hS => by subst hS; exact rfl⟩)) ?_ (fun _ _ hf => hf.elim)
      rintro S' rfl
      refine z_aload_n rfl rfl ?_
      refine z_iload rfl rfl ?_
      refine z_iconst 1 rfl rfl ?_
      refine z_cvv (M' := M_r_makeRoom) [.int ((if l3 ≤ l2 then l2 else l3 : Int32) - (r1 - (if l3 ≤ l2 then l3 else l2 : Int32))), .int 1] hx rfl w_823 cv_r_makeRoom hG.1 (by decide) rfl rfl rfl rfl (zr_makeRoom hx hG hw) ?_ (fun _ _ hf => hf.elim)
      clear hw
      intro S6 hw
      refine z_aload_n rfl rfl ?_
      refine z_iload rfl rfl ?_
      refine z_iconst 0 rfl rfl ?_
      refine z_iload_n rfl rfl ?_
      obtain ⟨hc3, hw⟩ := hw
      replace hw := hw _ rfl
      refine z_cvv (M' := M_r_put) (post := fun S' => (up2 S6 154 ((8 * ((if l3 ≤ l2 then l2 else l3 : Int32) - (r1 - (if l3 ≤ l2 then l3 else l2 : Int32)))) + 0).toNatClampNeg l1) = S') [.int ((if l3 ≤ l2 then l2 else l3 : Int32) - (r1 - (if l3 ≤ l2 then l3 else l2 : Int32))), .int 0, .int l1] hx rfl w_774 cv_r_put hG.1 (by decide) rfl rfl rfl rfl (zr_put hx hG (⟨hc3, fun _ hS => by subst hS; exact rfl⟩)) ?_ (fun _ _ hf => hf.elim)
      rintro S' rfl
      refine z_aload_n rfl rfl ?_
      refine z_iload rfl rfl ?_
      refine z_iconst 1 rfl rfl ?_
      refine z_iconst 3 rfl rfl ?_
      obtain ⟨hc4, hw⟩ := hw
      replace hw := hw _ rfl
      refine z_cvv (M' := M_r_put) (post := fun S' => (up2 (up2 S6 154 ((8 * ((if l3 ≤ l2 then l2 else l3 : Int32) - (r1 - (if l3 ≤ l2 then l3 else l2 : Int32)))) + 0).toNatClampNeg l1) 154 ((8 * ((if l3 ≤ l2 then l2 else l3 : Int32) - (r1 - (if l3 ≤ l2 then l3 else l2 : Int32)))) + 1).toNatClampNeg 3) = S') [.int ((if l3 ≤ l2 then l2 else l3 : Int32) - (r1 - (if l3 ≤ l2 then l3 else l2 : Int32))), .int 1, .int 3] hx rfl w_774 cv_r_put hG.1 (by decide) rfl rfl rfl rfl (zr_put hx hG (⟨hc4, fun _ hS => by subst hS; exact rfl⟩)) ?_ (fun _ _ hf => hf.elim)
      rintro S' rfl
      refine z_aload_n rfl rfl ?_
      refine z_iload rfl rfl ?_
      refine z_iconst 2 rfl rfl ?_
      refine z_iconst 0 rfl rfl ?_
      obtain ⟨hc5, hw⟩ := hw
      replace hw := hw _ rfl
      refine z_cvv (M' := M_r_put) (post := fun S' => (up2 (up2 (up2 S6 154 ((8 * ((if l3 ≤ l2 then l2 else l3 : Int32) - (r1 - (if l3 ≤ l2 then l3 else l2 : Int32)))) + 0).toNatClampNeg l1) 154 ((8 * ((if l3 ≤ l2 then l2 else l3 : Int32) - (r1 - (if l3 ≤ l2 then l3 else l2 : Int32)))) + 1).toNatClampNeg 3) 154 ((8 * ((if l3 ≤ l2 then l2 else l3 : Int32) - (r1 - (if l3 ≤ l2 then l3 else l2 : Int32)))) + 2).toNatClampNeg 0) = S') [.int ((if l3 ≤ l2 then l2 else l3 : Int32) - (r1 - (if l3 ≤ l2 then l3 else l2 : Int32))), .int 2, .int 0] hx rfl w_774 cv_r_put hG.1 (by decide) rfl rfl rfl rfl (zr_put hx hG (⟨hc5, fun _ hS => by subst hS; exact rfl⟩)) ?_ (fun _ _ hf => hf.elim)
      rintro S' rfl
      refine z_aload_n rfl rfl ?_
      refine z_iload rfl rfl ?_
      refine z_iconst 3 rfl rfl ?_
      refine z_iconst 0 rfl rfl ?_
      obtain ⟨hc6, hw⟩ := hw
      replace hw := hw _ rfl
      refine z_cvv (M' := M_r_put) (post := fun S' => (up2 (up2 (up2 (up2 S6 154 ((8 * ((if l3 ≤ l2 then l2 else l3 : Int32) - (r1 - (if l3 ≤ l2 then l3 else l2 : Int32)))) + 0).toNatClampNeg l1) 154 ((8 * ((if l3 ≤ l2 then l2 else l3 : Int32) - (r1 - (if l3 ≤ l2 then l3 else l2 : Int32)))) + 1).toNatClampNeg 3) 154 ((8 * ((if l3 ≤ l2 then l2 else l3 : Int32) - (r1 - (if l3 ≤ l2 then l3 else l2 : Int32)))) + 2).toNatClampNeg 0) 154 ((8 * ((if l3 ≤ l2 then l2 else l3 : Int32) - (r1 - (if l3 ≤ l2 then l3 else l2 : Int32)))) + 3).toNatClampNeg 0) = S') [.int ((if l3 ≤ l2 then l2 else l3 : Int32) - (r1 - (if l3 ≤ l2 then l3 else l2 : Int32))), .int 3, .int 0] hx rfl w_774 cv_r_put hG.1 (by decide) rfl rfl rfl rfl (zr_put hx hG (⟨hc6, fun _ hS => by subst hS; exact rfl⟩)) ?_ (fun _ _ hf => hf.elim)
      rintro S' rfl
      refine z_aload_n rfl rfl ?_
      refine z_iload rfl rfl ?_
      refine z_iconst 4 rfl rfl ?_
      refine z_iconst 0 rfl rfl ?_
      obtain ⟨hc7, hw⟩ := hw
      replace hw := hw _ rfl
      refine z_cvv (M' := M_r_put) (post := fun S' => (up2 (up2 (up2 (up2 (up2 S6 154 ((8 * ((if l3 ≤ l2 then l2 else l3 : Int32) - (r1 - (if l3 ≤ l2 then l3 else l2 : Int32)))) + 0).toNatClampNeg l1) 154 ((8 * ((if l3 ≤ l2 then l2 else l3 : Int32) - (r1 - (if l3 ≤ l2 then l3 else l2 : Int32)))) + 1).toNatClampNeg 3) 154 ((8 * ((if l3 ≤ l2 then l2 else l3 : Int32) - (r1 - (if l3 ≤ l2 then l3 else l2 : Int32)))) + 2).toNatClampNeg 0) 154 ((8 * ((if l3 ≤ l2 then l2 else l3 : Int32) - (r1 - (if l3 ≤ l2 then l3 else l2 : Int32)))) + 3).toNatClampNeg 0) 154 ((8 * ((if l3 ≤ l2 then l2 else l3 : Int32) - (r1 - (if l3 ≤ l2 then l3 else l2 : Int32)))) + 4).toNatClampNeg 0) = S') [.int ((if l3 ≤ l2 then l2 else l3 : Int32) - (r1 - (if l3 ≤ l2 then l3 else l2 : Int32))), .int 4, .int 0] hx rfl w_774 cv_r_put hG.1 (by decide) rfl rfl rfl rfl (zr_put hx hG (⟨hc7, fun _ hS => by subst hS; exact rfl⟩)) ?_ (fun _ _ hf => hf.elim)
      rintro S' rfl
      refine z_aload_n rfl rfl ?_
      refine z_iload rfl rfl ?_
      refine z_iconst 5 rfl rfl ?_
      refine z_iconst 0 rfl rfl ?_
      obtain ⟨hc8, hw⟩ := hw
      replace hw := hw _ rfl
      refine z_cvv (M' := M_r_put) (post := fun S' => (up2 (up2 (up2 (up2 (up2 (up2 S6 154 ((8 * ((if l3 ≤ l2 then l2 else l3 : Int32) - (r1 - (if l3 ≤ l2 then l3 else l2 : Int32)))) + 0).toNatClampNeg l1) 154 ((8 * ((if l3 ≤ l2 then l2 else l3 : Int32) - (r1 - (if l3 ≤ l2 then l3 else l2 : Int32)))) + 1).toNatClampNeg 3) 154 ((8 * ((if l3 ≤ l2 then l2 else l3 : Int32) - (r1 - (if l3 ≤ l2 then l3 else l2 : Int32)))) + 2).toNatClampNeg 0) 154 ((8 * ((if l3 ≤ l2 then l2 else l3 : Int32) - (r1 - (if l3 ≤ l2 then l3 else l2 : Int32)))) + 3).toNatClampNeg 0) 154 ((8 * ((if l3 ≤ l2 then l2 else l3 : Int32) - (r1 - (if l3 ≤ l2 then l3 else l2 : Int32)))) + 4).toNatClampNeg 0) 154 ((8 * ((if l3 ≤ l2 then l2 else l3 : Int32) - (r1 - (if l3 ≤ l2 then l3 else l2 : Int32)))) + 5).toNatClampNeg 0) = S') [.int ((if l3 ≤ l2 then l2 else l3 : Int32) - (r1 - (if l3 ≤ l2 then l3 else l2 : Int32))), .int 5, .int 0] hx rfl w_774 cv_r_put hG.1 (by decide) rfl rfl rfl rfl (zr_put hx hG (⟨hc8, fun _ hS => by subst hS; exact rfl⟩)) ?_ (fun _ _ hf => hf.elim)
      rintro S' rfl
      refine z_aload_n rfl rfl ?_
      refine z_iload rfl rfl ?_
      refine z_bipush 6 rfl rfl ?_
      refine z_iconst (-1) rfl rfl ?_
      obtain ⟨hc9, hw⟩ := hw
      replace hw := hw _ rfl
      refine z_cvv (M' := M_r_put) (post := fun S' => (up2 (up2 (up2 (up2 (up2 (up2 (up2 S6 154 ((8 * ((if l3 ≤ l2 then l2 else l3 : Int32) - (r1 - (if l3 ≤ l2 then l3 else l2 : Int32)))) + 0).toNatClampNeg l1) 154 ((8 * ((if l3 ≤ l2 then l2 else l3 : Int32) - (r1 - (if l3 ≤ l2 then l3 else l2 : Int32)))) + 1).toNatClampNeg 3) 154 ((8 * ((if l3 ≤ l2 then l2 else l3 : Int32) - (r1 - (if l3 ≤ l2 then l3 else l2 : Int32)))) + 2).toNatClampNeg 0) 154 ((8 * ((if l3 ≤ l2 then l2 else l3 : Int32) - (r1 - (if l3 ≤ l2 then l3 else l2 : Int32)))) + 3).toNatClampNeg 0) 154 ((8 * ((if l3 ≤ l2 then l2 else l3 : Int32) - (r1 - (if l3 ≤ l2 then l3 else l2 : Int32)))) + 4).toNatClampNeg 0) 154 ((8 * ((if l3 ≤ l2 then l2 else l3 : Int32) - (r1 - (if l3 ≤ l2 then l3 else l2 : Int32)))) + 5).toNatClampNeg 0) 154 ((8 * ((if l3 ≤ l2 then l2 else l3 : Int32) - (r1 - (if l3 ≤ l2 then l3 else l2 : Int32)))) + 6).toNatClampNeg (-1)) = S') [.int ((if l3 ≤ l2 then l2 else l3 : Int32) - (r1 - (if l3 ≤ l2 then l3 else l2 : Int32))), .int 6, .int (-1)] hx rfl w_774 cv_r_put hG.1 (by decide) rfl rfl rfl rfl (zr_put hx hG (⟨hc9, fun _ hS => by subst hS; exact rfl⟩)) ?_ (fun _ _ hf => hf.elim)
      rintro S' rfl
      refine z_aload_n rfl rfl ?_
      refine z_iload rfl rfl ?_
      refine z_bipush 7 rfl rfl ?_
      refine z_iconst (-1) rfl rfl ?_
      obtain ⟨hc10, hw⟩ := hw
      replace hw := hw _ rfl
      refine z_cvv (M' := M_r_put) (post := fun S' => (up2 (up2 (up2 (up2 (up2 (up2 (up2 (up2 S6 154 ((8 * ((if l3 ≤ l2 then l2 else l3 : Int32) - (r1 - (if l3 ≤ l2 then l3 else l2 : Int32)))) + 0).toNatClampNeg l1) 154 ((8 * ((if l3 ≤ l2 then l2 else l3 : Int32) - (r1 - (if l3 ≤ l2 then l3 else l2 : Int32)))) + 1).toNatClampNeg 3) 154 ((8 * ((if l3 ≤ l2 then l2 else l3 : Int32) - (r1 - (if l3 ≤ l2 then l3 else l2 : Int32)))) + 2).toNatClampNeg 0) 154 ((8 * ((if l3 ≤ l2 then l2 else l3 : Int32) - (r1 - (if l3 ≤ l2 then l3 else l2 : Int32)))) + 3).toNatClampNeg 0) 154 ((8 * ((if l3 ≤ l2 then l2 else l3 : Int32) - (r1 - (if l3 ≤ l2 then l3 else l2 : Int32)))) + 4).toNatClampNeg 0) 154 ((8 * ((if l3 ≤ l2 then l2 else l3 : Int32) - (r1 - (if l3 ≤ l2 then l3 else l2 : Int32)))) + 5).toNatClampNeg 0) 154 ((8 * ((if l3 ≤ l2 then l2 else l3 : Int32) - (r1 - (if l3 ≤ l2 then l3 else l2 : Int32)))) + 6).toNatClampNeg (-1)) 154 ((8 * ((if l3 ≤ l2 then l2 else l3 : Int32) - (r1 - (if l3 ≤ l2 then l3 else l2 : Int32)))) + 7).toNatClampNeg (-1)) = S') [.int ((if l3 ≤ l2 then l2 else l3 : Int32) - (r1 - (if l3 ≤ l2 then l3 else l2 : Int32))), .int 7, .int (-1)] hx rfl w_774 cv_r_put hG.1 (by decide) rfl rfl rfl rfl (zr_put hx hG (⟨hc10, fun _ hS => by subst hS; exact rfl⟩)) ?_ (fun _ _ hf => hf.elim)
      rintro S' rfl
      exact z_vret rfl rfl rfl rfl (Or.inl ⟨_, rfl, rfl, hw⟩)
    refine z_icmp_ge rfl (fun hp14 => ?_) (fun hp14 => ?_)
    · refine z_iload_n rfl rfl ?_
      exact hj14 _ (by rw [if_pos hp14])
    · refine z_iload_n rfl rfl ?_
      refine z_goto rfl ?_
      exact hj14 _ (by rw [if_neg hp14])
  refine z_icmp_ge rfl (fun hp2 => ?_) (fun hp2 => ?_)
  · refine z_iload_n rfl rfl ?_
    exact hj2 _ (by rw [if_pos hp2])
  · refine z_iload_n rfl rfl ?_
    refine z_goto rfl ?_
    exact hj2 _ (by rw [if_neg hp2])
def r_ungroup_L18 (post : Mem → Prop)  : Nat → Mem → Int32 → Int32 → Int32 → Int32 → Prop
  | 0, _, _, _, _, _ => False
  | n + 1, S, l1, l2, l3, l4 =>
  (((S 148 7) ≤ l4) →
   r_takeOut (fun S1 =>
    post S1) S l1 (l1 + 1)) ∧
  ((¬ (S 148 7) ≤ l4) →
   (vp_in ((8 * l4) + 7) 112) ∧ 
   ((¬ (S 154 ((8 * l4) + 7).toNatClampNeg) = l2) →
    r_ungroup_L18 post n S l1 l2 l3 (l4 + 1)) ∧
   (((S 154 ((8 * l4) + 7).toNatClampNeg) = l2) →
    (vp_in ((8 * l4) + 7) 112) ∧ ∀ S2, S2 = up2 S 154 ((8 * l4) + 7).toNatClampNeg l3 → 
    r_ungroup_L18 post n S2 l1 l2 l3 (l4 + 1)))
set_option maxRecDepth 100000 in
set_option maxHeartbeats 1000000 in
theorem zr_ungroup_L18 {g : Gm} {G : Gp} {post : Mem → Prop} (hx : G.2.2.2 = false) (hG : isR G) : ∀ (n : Nat) {S : Mem} {l1 : Int32} {l2 : Int32} {l3 : Int32} {l4 : Int32} , r_ungroup_L18 post n S l1 l2 l3 l4 → Z g M_r_ungroup 0 0 18 [some (.ref 148), some (.int l1), some (.int l2), some (.int l3), some (.int l4)] [] (S, G) (Qv G post noEx) := by
  intro n
  induction n with
  | zero =>
    intros
    rename_i hw
    exact hw.elim
  | succ n ih =>
    intro S l1 l2 l3 l4 hw
    rw [r_ungroup_L18] at hw
    refine z_iload rfl rfl ?_
    refine z_aload_n rfl rfl ?_
    refine z_geti (ci := 7) 7 rfl hG.1 rfl w_665 ?_
    refine z_icmp_ge rfl (fun hq => ?_) (fun hq => ?_)
    · replace hw := hw.1 hq
      refine z_aload_n rfl rfl ?_
      refine z_iload_n rfl rfl ?_
      refine z_iload_n rfl rfl ?_
      refine z_iconst 1 rfl rfl ?_
      refine z_iadd rfl ?_
      refine z_cvv (M' := M_r_takeOut) [.int l1, .int (l1 + 1)] hx rfl w_786 cv_r_takeOut hG.1 (by decide) rfl rfl rfl rfl (zr_takeOut hx hG hw) ?_ (fun _ _ hf => hf.elim)
      clear hw
      intro S1 hw
      exact z_vret rfl rfl rfl rfl (Or.inl ⟨_, rfl, rfl, hw⟩)
    · replace hw := hw.2 hq
      refine z_aload_n rfl rfl ?_
      refine z_iload rfl rfl ?_
      refine z_bipush 7 rfl rfl ?_
      obtain ⟨hc1, hw⟩ := hw
      refine z_cvi (M' := M_r_of) (post := fun v S' => (S 154 ((8 * l4) + 7).toNatClampNeg) = v ∧ S = S') [.int l4, .int 7] hx rfl w_754 cv_r_of hG.1 (by decide) rfl rfl rfl rfl (zr_of hx hG (⟨hc1, ⟨rfl, rfl⟩⟩)) ?_ (fun _ _ hf => hf.elim)
      rintro v S' ⟨rfl, rfl⟩
      refine z_iload_n rfl rfl ?_
      refine z_icmp_ne rfl (fun hq => ?_) (fun hq => ?_)
      · replace hw := hw.1 hq
        refine z_iinc 1 [some (.ref 148), some (.int l1), some (.int l2), some (.int l3), some (.int (l4 + 1))] rfl rfl rfl rfl ?_
        refine z_goto rfl ?_
        refine Z.forget' [some (.ref 148), some (.int l1), some (.int l2), some (.int l3), some (.int (l4 + 1))] ⟨rfl, ⟨rfl, ⟨rfl, ⟨rfl, ⟨rfl, trivial⟩⟩⟩⟩⟩ ?_
        exact ih hw
      · replace hw := hw.2 hq
        refine z_aload_n rfl rfl ?_
        refine z_iload rfl rfl ?_
        refine z_bipush 7 rfl rfl ?_
        refine z_iload_n rfl rfl ?_
        obtain ⟨hc2, hw⟩ := hw
        replace hw := hw _ rfl
        refine z_cvv (M' := M_r_put) (post := fun S' => (up2 S 154 ((8 * l4) + 7).toNatClampNeg l3) = S') [.int l4, .int 7, .int l3] hx rfl w_774 cv_r_put hG.1 (by decide) rfl rfl rfl rfl (zr_put hx hG (⟨hc2, fun _ hS => by subst hS; exact rfl⟩)) ?_ (fun _ _ hf => hf.elim)
        rintro S' rfl
        refine z_iinc 1 [some (.ref 148), some (.int l1), some (.int l2), some (.int l3), some (.int (l4 + 1))] rfl rfl rfl rfl ?_
        refine z_goto rfl ?_
        refine Z.forget' [some (.ref 148), some (.int l1), some (.int l2), some (.int l3), some (.int (l4 + 1))] ⟨rfl, ⟨rfl, ⟨rfl, ⟨rfl, ⟨rfl, trivial⟩⟩⟩⟩⟩ ?_
        exact ih hw
def r_ungroup (post : Mem → Prop) (S : Mem) (l1 : Int32) : Prop :=
  (vp_in ((8 * l1) + 0) 112) ∧ 
  (vp_in ((8 * l1) + 7) 112) ∧ 
  ∃ n, r_ungroup_L18 post n S l1 (S 154 ((8 * l1) + 0).toNatClampNeg) (S 154 ((8 * l1) + 7).toNatClampNeg) 0
set_option maxRecDepth 100000 in
set_option maxHeartbeats 1000000 in
theorem zr_ungroup {g : Gm} {G : Gp} {S : Mem} {post : Mem → Prop} {l1 : Int32} (hx : G.2.2.2 = false) (hG : isR G) (hw : r_ungroup post S l1) : Z g M_r_ungroup 0 0 0 (entryL [.ref 148, .int l1] (mL M_r_ungroup)) [] (S, G) (Qv G post noEx) := by
  unfold r_ungroup at hw
  show Z g M_r_ungroup 0 0 0 [some (.ref 148), some (.int l1), none, none, none] [] (S, G) (Qv G post noEx)
  refine z_aload_n rfl rfl ?_
  refine z_iload_n rfl rfl ?_
  refine z_iconst 0 rfl rfl ?_
  obtain ⟨hc1, hw⟩ := hw
  refine z_cvi (M' := M_r_of) (post := fun v S' => (S 154 ((8 * l1) + 0).toNatClampNeg) = v ∧ S = S') [.int l1, .int 0] hx rfl w_754 cv_r_of hG.1 (by decide) rfl rfl rfl rfl (zr_of hx hG (⟨hc1, ⟨rfl, rfl⟩⟩)) ?_ (fun _ _ hf => hf.elim)
  rintro v S' ⟨rfl, rfl⟩
  refine z_istore_n [some (.ref 148), some (.int l1), some (.int (S 154 ((8 * l1) + 0).toNatClampNeg)), none, none] rfl rfl rfl ?_
  refine z_aload_n rfl rfl ?_
  refine z_iload_n rfl rfl ?_
  refine z_bipush 7 rfl rfl ?_
  obtain ⟨hc2, hw⟩ := hw
  refine z_cvi (M' := M_r_of) (post := fun v S' => (S 154 ((8 * l1) + 7).toNatClampNeg) = v ∧ S = S') [.int l1, .int 7] hx rfl w_754 cv_r_of hG.1 (by decide) rfl rfl rfl rfl (zr_of hx hG (⟨hc2, ⟨rfl, rfl⟩⟩)) ?_ (fun _ _ hf => hf.elim)
  rintro v S' ⟨rfl, rfl⟩
  refine z_istore_n [some (.ref 148), some (.int l1), some (.int (S 154 ((8 * l1) + 0).toNatClampNeg)), some (.int (S 154 ((8 * l1) + 7).toNatClampNeg)), none] rfl rfl rfl ?_
  refine z_iconst 0 rfl rfl ?_
  refine z_istore [some (.ref 148), some (.int l1), some (.int (S 154 ((8 * l1) + 0).toNatClampNeg)), some (.int (S 154 ((8 * l1) + 7).toNatClampNeg)), some (.int 0)] rfl rfl rfl ?_
  refine Z.forget' [some (.ref 148), some (.int l1), some (.int (S 154 ((8 * l1) + 0).toNatClampNeg)), some (.int (S 154 ((8 * l1) + 7).toNatClampNeg)), some (.int 0)] ⟨rfl, ⟨rfl, ⟨rfl, ⟨rfl, ⟨rfl, trivial⟩⟩⟩⟩⟩ ?_
  obtain ⟨n, hw⟩ := hw
  exact zr_ungroup_L18 hx hG n hw
def r_twice (post : Mem → Prop) (S : Mem) (l1 : Int32) (l2 : Int32) (l3 : Int32) (l4 : Int32) : Prop :=
  r_makeRoom (fun S1 =>
   r_copyCells (fun S2 =>
    (vp_in ((8 * (l2 + 1)) + 0) 112) ∧ ∀ S3, S3 = up2 S2 154 ((8 * (l2 + 1)) + 0).toNatClampNeg l1 → 
    (vp_in ((8 * l2) + 2) 112) ∧ 
    (vp_in ((8 * (l2 + 1)) + 2) 112) ∧ ∀ S4, S4 = up2 S3 154 ((8 * (l2 + 1)) + 2).toNatClampNeg ((S3 154 ((8 * l2) + 2).toNatClampNeg) + l3) → 
    (vp_in ((8 * l2) + 3) 112) ∧ 
    (vp_in ((8 * (l2 + 1)) + 3) 112) ∧ ∀ S5, S5 = up2 S4 154 ((8 * (l2 + 1)) + 3).toNatClampNeg ((S4 154 ((8 * l2) + 3).toNatClampNeg) + l4) → 
    post S5) S1 l2 (l2 + 1)) S (l2 + 1) 1
set_option maxRecDepth 100000 in
set_option maxHeartbeats 1000000 in
theorem zr_twice {g : Gm} {G : Gp} {S : Mem} {post : Mem → Prop} {l1 : Int32} {l2 : Int32} {l3 : Int32} {l4 : Int32} (hx : G.2.2.2 = false) (hG : isR G) (hw : r_twice post S l1 l2 l3 l4) : Z g M_r_twice 0 0 0 (entryL [.ref 148, .int l1, .int l2, .int l3, .int l4] (mL M_r_twice)) [] (S, G) (Qv G post noEx) := by
  unfold r_twice at hw
  show Z g M_r_twice 0 0 0 [some (.ref 148), some (.int l1), some (.int l2), some (.int l3), some (.int l4)] [] (S, G) (Qv G post noEx)
  refine z_aload_n rfl rfl ?_
  refine z_iload_n rfl rfl ?_
  refine z_iconst 1 rfl rfl ?_
  refine z_iadd rfl ?_
  refine z_iconst 1 rfl rfl ?_
  refine z_cvv (M' := M_r_makeRoom) [.int (l2 + 1), .int 1] hx rfl w_823 cv_r_makeRoom hG.1 (by decide) rfl rfl rfl rfl (zr_makeRoom hx hG hw) ?_ (fun _ _ hf => hf.elim)
  clear hw
  intro S1 hw
  refine z_aload_n rfl rfl ?_
  refine z_iload_n rfl rfl ?_
  refine z_iload_n rfl rfl ?_
  refine z_iconst 1 rfl rfl ?_
  refine z_iadd rfl ?_
  refine z_cvv (M' := M_r_copyCells) [.int l2, .int (l2 + 1)] hx rfl w_790 cv_r_copyCells hG.1 (by decide) rfl rfl rfl rfl (zr_copyCells hx hG hw) ?_ (fun _ _ hf => hf.elim)
  clear hw
  intro S2 hw
  refine z_aload_n rfl rfl ?_
  refine z_iload_n rfl rfl ?_
  refine z_iconst 1 rfl rfl ?_
  refine z_iadd rfl ?_
  refine z_iconst 0 rfl rfl ?_
  refine z_iload_n rfl rfl ?_
  obtain ⟨hc1, hw⟩ := hw
  replace hw := hw _ rfl
  refine z_cvv (M' := M_r_put) (post := fun S' => (up2 S2 154 ((8 * (l2 + 1)) + 0).toNatClampNeg l1) = S') [.int (l2 + 1), .int 0, .int l1] hx rfl w_774 cv_r_put hG.1 (by decide) rfl rfl rfl rfl (zr_put hx hG (⟨hc1, fun _ hS => by subst hS; exact rfl⟩)) ?_ (fun _ _ hf => hf.elim)
  rintro S' rfl
  refine z_aload_n rfl rfl ?_
  refine z_iload_n rfl rfl ?_
  refine z_iconst 1 rfl rfl ?_
  refine z_iadd rfl ?_
  refine z_iconst 2 rfl rfl ?_
  refine z_aload_n rfl rfl ?_
  refine z_iload_n rfl rfl ?_
  refine z_iconst 2 rfl rfl ?_
  obtain ⟨hc2, hw⟩ := hw
  refine z_cvi (M' := M_r_of) (post := fun v S' => ((up2 S2 154 ((8 * (l2 + 1)) + 0).toNatClampNeg l1) 154 ((8 * l2) + 2).toNatClampNeg) = v ∧ (up2 S2 154 ((8 * (l2 + 1)) + 0).toNatClampNeg l1) = S') [.int l2, .int 2] hx rfl w_754 cv_r_of hG.1 (by decide) rfl rfl rfl rfl (zr_of hx hG (⟨hc2, ⟨rfl, rfl⟩⟩)) ?_ (fun _ _ hf => hf.elim)
  rintro v S' ⟨rfl, rfl⟩
  refine z_iload_n rfl rfl ?_
  refine z_iadd rfl ?_
  obtain ⟨hc3, hw⟩ := hw
  replace hw := hw _ rfl
  refine z_cvv (M' := M_r_put) (post := fun S' => (up2 (up2 S2 154 ((8 * (l2 + 1)) + 0).toNatClampNeg l1) 154 ((8 * (l2 + 1)) + 2).toNatClampNeg (((up2 S2 154 ((8 * (l2 + 1)) + 0).toNatClampNeg l1) 154 ((8 * l2) + 2).toNatClampNeg) + l3)) = S') [.int (l2 + 1), .int 2, .int (((up2 S2 154 ((8 * (l2 + 1)) + 0).toNatClampNeg l1) 154 ((8 * l2) + 2).toNatClampNeg) + l3)] hx rfl w_774 cv_r_put hG.1 (by decide) rfl rfl rfl rfl (zr_put hx hG (⟨hc3, fun _ hS => by subst hS; exact rfl⟩)) ?_ (fun _ _ hf => hf.elim)
  rintro S' rfl
  refine z_aload_n rfl rfl ?_
  refine z_iload_n rfl rfl ?_
  refine z_iconst 1 rfl rfl ?_
  refine z_iadd rfl ?_
  refine z_iconst 3 rfl rfl ?_
  refine z_aload_n rfl rfl ?_
  refine z_iload_n rfl rfl ?_
  refine z_iconst 3 rfl rfl ?_
  obtain ⟨hc4, hw⟩ := hw
  refine z_cvi (M' := M_r_of) (post := fun v S' => ((up2 (up2 S2 154 ((8 * (l2 + 1)) + 0).toNatClampNeg l1) 154 ((8 * (l2 + 1)) + 2).toNatClampNeg (((up2 S2 154 ((8 * (l2 + 1)) + 0).toNatClampNeg l1) 154 ((8 * l2) + 2).toNatClampNeg) + l3)) 154 ((8 * l2) + 3).toNatClampNeg) = v ∧ (up2 (up2 S2 154 ((8 * (l2 + 1)) + 0).toNatClampNeg l1) 154 ((8 * (l2 + 1)) + 2).toNatClampNeg (((up2 S2 154 ((8 * (l2 + 1)) + 0).toNatClampNeg l1) 154 ((8 * l2) + 2).toNatClampNeg) + l3)) = S') [.int l2, .int 3] hx rfl w_754 cv_r_of hG.1 (by decide) rfl rfl rfl rfl (zr_of hx hG (⟨hc4, ⟨rfl, rfl⟩⟩)) ?_ (fun _ _ hf => hf.elim)
  rintro v S' ⟨rfl, rfl⟩
  refine z_iload rfl rfl ?_
  refine z_iadd rfl ?_
  obtain ⟨hc5, hw⟩ := hw
  replace hw := hw _ rfl
  refine z_cvv (M' := M_r_put) (post := fun S' => (up2 (up2 (up2 S2 154 ((8 * (l2 + 1)) + 0).toNatClampNeg l1) 154 ((8 * (l2 + 1)) + 2).toNatClampNeg (((up2 S2 154 ((8 * (l2 + 1)) + 0).toNatClampNeg l1) 154 ((8 * l2) + 2).toNatClampNeg) + l3)) 154 ((8 * (l2 + 1)) + 3).toNatClampNeg (((up2 (up2 S2 154 ((8 * (l2 + 1)) + 0).toNatClampNeg l1) 154 ((8 * (l2 + 1)) + 2).toNatClampNeg (((up2 S2 154 ((8 * (l2 + 1)) + 0).toNatClampNeg l1) 154 ((8 * l2) + 2).toNatClampNeg) + l3)) 154 ((8 * l2) + 3).toNatClampNeg) + l4)) = S') [.int (l2 + 1), .int 3, .int (((up2 (up2 S2 154 ((8 * (l2 + 1)) + 0).toNatClampNeg l1) 154 ((8 * (l2 + 1)) + 2).toNatClampNeg (((up2 S2 154 ((8 * (l2 + 1)) + 0).toNatClampNeg l1) 154 ((8 * l2) + 2).toNatClampNeg) + l3)) 154 ((8 * l2) + 3).toNatClampNeg) + l4)] hx rfl w_774 cv_r_put hG.1 (by decide) rfl rfl rfl rfl (zr_put hx hG (⟨hc5, fun _ hS => by subst hS; exact rfl⟩)) ?_ (fun _ _ hf => hf.elim)
  rintro S' rfl
  exact z_vret rfl rfl rfl rfl (Or.inl ⟨_, rfl, rfl, hw⟩)
def r_align (post : Mem → Prop) (S : Mem) (l1 : Int32) (l2 : Int32) (l3 : Int32) : Prop :=
  r_behind (fun r1 S1 =>
   r_findBox (fun S2 =>
    r_behind (fun r3 S3 =>
     r_findBox (fun S4 =>
      r_behind (fun r5 S5 =>
       r_shift (fun S6 =>
        post S6) S5 l1 r5 (if l3 = 0 then ((S2 148 12) - (S4 148 12)) else (if l3 = 2 then ((S2 148 14) - (S4 148 14)) else 0 : Int32) : Int32) (if l3 = 1 then ((S2 148 13) - (S4 148 13)) else (if l3 = 3 then ((S2 148 15) - (S4 148 15)) else 0 : Int32) : Int32)) S4 l1) S3 l1 r3) S2 l1) S1 l2 r1) S l2
set_option maxRecDepth 100000 in
set_option maxHeartbeats 1000000 in
theorem zr_align {g : Gm} {G : Gp} {S : Mem} {post : Mem → Prop} {l1 : Int32} {l2 : Int32} {l3 : Int32} (hx : G.2.2.2 = false) (hG : isR G) (hw : r_align post S l1 l2 l3) : Z g M_r_align 0 0 0 (entryL [.ref 148, .int l1, .int l2, .int l3] (mL M_r_align)) [] (S, G) (Qv G post noEx) := by
  unfold r_align at hw
  show Z g M_r_align 0 0 0 [some (.ref 148), some (.int l1), some (.int l2), some (.int l3), none, none, none, none, none, none] [] (S, G) (Qv G post noEx)
  refine z_aload_n rfl rfl ?_
  refine z_iload_n rfl rfl ?_
  refine z_aload_n rfl rfl ?_
  refine z_iload_n rfl rfl ?_
  refine z_cvi (M' := M_r_behind) [.int l2] hx rfl w_782 cv_r_behind hG.1 (by decide) rfl rfl rfl rfl (zr_behind hx hG hw) ?_ (fun _ _ hf => hf.elim)
  clear hw
  intro r1 S1 hw
  refine z_cvv (M' := M_r_findBox) [.int l2, .int r1] hx rfl w_802 cv_r_findBox hG.1 (by decide) rfl rfl rfl rfl (zr_findBox hx hG hw) ?_ (fun _ _ hf => hf.elim)
  clear hw
  intro S2 hw
  refine z_aload_n rfl rfl ?_
  refine z_geti (ci := 7) 12 rfl hG.1 rfl w_670 ?_
  refine z_istore [some (.ref 148), some (.int l1), some (.int l2), some (.int l3), some (.int (S2 148 12)), none, none, none, none, none] rfl rfl rfl ?_
  refine z_aload_n rfl rfl ?_
  refine z_geti (ci := 7) 13 rfl hG.1 rfl w_671 ?_
  refine z_istore [some (.ref 148), some (.int l1), some (.int l2), some (.int l3), some (.int (S2 148 12)), some (.int (S2 148 13)), none, none, none, none] rfl rfl rfl ?_
  refine z_aload_n rfl rfl ?_
  refine z_geti (ci := 7) 14 rfl hG.1 rfl w_672 ?_
  refine z_istore [some (.ref 148), some (.int l1), some (.int l2), some (.int l3), some (.int (S2 148 12)), some (.int (S2 148 13)), some (.int (S2 148 14)), none, none, none] rfl rfl rfl ?_
  refine z_aload_n rfl rfl ?_
  refine z_geti (ci := 7) 15 rfl hG.1 rfl w_673 ?_
  refine z_istore [some (.ref 148), some (.int l1), some (.int l2), some (.int l3), some (.int (S2 148 12)), some (.int (S2 148 13)), some (.int (S2 148 14)), some (.int (S2 148 15)), none, none] rfl rfl rfl ?_
  refine z_aload_n rfl rfl ?_
  refine z_iload_n rfl rfl ?_
  refine z_aload_n rfl rfl ?_
  refine z_iload_n rfl rfl ?_
  refine z_cvi (M' := M_r_behind) [.int l1] hx rfl w_782 cv_r_behind hG.1 (by decide) rfl rfl rfl rfl (zr_behind hx hG hw) ?_ (fun _ _ hf => hf.elim)
  clear hw
  intro r3 S3 hw
  refine z_cvv (M' := M_r_findBox) [.int l1, .int r3] hx rfl w_802 cv_r_findBox hG.1 (by decide) rfl rfl rfl rfl (zr_findBox hx hG hw) ?_ (fun _ _ hf => hf.elim)
  clear hw
  intro S4 hw
  refine z_iload_n rfl rfl ?_
  have hj45 : ∀ v : Int32, v = (if l3 = 0 then ((S2 148 12) - (S4 148 12)) else (if l3 = 2 then ((S2 148 14) - (S4 148 14)) else 0 : Int32) : Int32) → Z g M_r_align 0 0 74 [some (.ref 148), some (.int l1), some (.int l2), some (.int l3), some (.int (S2 148 12)), some (.int (S2 148 13)), some (.int (S2 148 14)), some (.int (S2 148 15)), none, none] [.int v] (S4, G) (Qv G post noEx) := by
    intro v hv
    subst hv
    refine z_istore [some (.ref 148), some (.int l1), some (.int l2), some (.int l3), some (.int (S2 148 12)), some (.int (S2 148 13)), some (.int (S2 148 14)), some (.int (S2 148 15)), some (.int (if l3 = 0 then ((S2 148 12) - (S4 148 12)) else (if l3 = 2 then ((S2 148 14) - (S4 148 14)) else 0 : Int32) : Int32)), none] rfl rfl rfl ?_
    refine z_iload_n rfl rfl ?_
    refine z_iconst 1 rfl rfl ?_
    have hj78 : ∀ v : Int32, v = (if l3 = 1 then ((S2 148 13) - (S4 148 13)) else (if l3 = 3 then ((S2 148 15) - (S4 148 15)) else 0 : Int32) : Int32) → Z g M_r_align 0 0 107 [some (.ref 148), some (.int l1), some (.int l2), some (.int l3), some (.int (S2 148 12)), some (.int (S2 148 13)), some (.int (S2 148 14)), some (.int (S2 148 15)), some (.int (if l3 = 0 then ((S2 148 12) - (S4 148 12)) else (if l3 = 2 then ((S2 148 14) - (S4 148 14)) else 0 : Int32) : Int32)), none] [.int v] (S4, G) (Qv G post noEx) := by
      intro v hv
      subst hv
      refine z_istore [some (.ref 148), some (.int l1), some (.int l2), some (.int l3), some (.int (S2 148 12)), some (.int (S2 148 13)), some (.int (S2 148 14)), some (.int (S2 148 15)), some (.int (if l3 = 0 then ((S2 148 12) - (S4 148 12)) else (if l3 = 2 then ((S2 148 14) - (S4 148 14)) else 0 : Int32) : Int32)), some (.int (if l3 = 1 then ((S2 148 13) - (S4 148 13)) else (if l3 = 3 then ((S2 148 15) - (S4 148 15)) else 0 : Int32) : Int32))] rfl rfl rfl ?_
      refine z_aload_n rfl rfl ?_
      refine z_iload_n rfl rfl ?_
      refine z_aload_n rfl rfl ?_
      refine z_iload_n rfl rfl ?_
      refine z_cvi (M' := M_r_behind) [.int l1] hx rfl w_782 cv_r_behind hG.1 (by decide) rfl rfl rfl rfl (zr_behind hx hG hw) ?_ (fun _ _ hf => hf.elim)
      clear hw
      intro r5 S5 hw
      refine z_iload rfl rfl ?_
      refine z_iload rfl rfl ?_
      refine z_cvv (M' := M_r_shift) [.int l1, .int r5, .int (if l3 = 0 then ((S2 148 12) - (S4 148 12)) else (if l3 = 2 then ((S2 148 14) - (S4 148 14)) else 0 : Int32) : Int32), .int (if l3 = 1 then ((S2 148 13) - (S4 148 13)) else (if l3 = 3 then ((S2 148 15) - (S4 148 15)) else 0 : Int32) : Int32)] hx rfl w_794 cv_r_shift hG.1 (by decide) rfl rfl rfl rfl (zr_shift hx hG hw) ?_ (fun _ _ hf => hf.elim)
      clear hw
      intro S6 hw
      exact z_vret rfl rfl rfl rfl (Or.inl ⟨_, rfl, rfl, hw⟩)
    refine z_icmp_ne rfl (fun hp78 => ?_) (fun hp78 => ?_)
    · refine z_iload_n rfl rfl ?_
      refine z_iconst 3 rfl rfl ?_
      refine z_icmp_ne rfl (fun hp93 => ?_) (fun hp93 => ?_)
      · refine z_iconst 0 rfl rfl ?_
        exact hj78 _ (by rw [if_neg hp78, if_neg hp93])
      · refine z_iload rfl rfl ?_
        refine z_aload_n rfl rfl ?_
        refine z_geti (ci := 7) 15 rfl hG.1 rfl w_673 ?_
        refine z_isub rfl ?_
        refine z_goto rfl ?_
        exact hj78 _ (by rw [if_neg hp78, if_pos hp93])
    · refine z_iload rfl rfl ?_
      refine z_aload_n rfl rfl ?_
      refine z_geti (ci := 7) 13 rfl hG.1 rfl w_671 ?_
      refine z_isub rfl ?_
      refine z_goto rfl ?_
      exact hj78 _ (by rw [if_pos hp78])
  refine z_if_ne rfl (fun hp45 => ?_) (fun hp45 => ?_)
  · refine z_iload_n rfl rfl ?_
    refine z_iconst 2 rfl rfl ?_
    refine z_icmp_ne rfl (fun hp60 => ?_) (fun hp60 => ?_)
    · refine z_iconst 0 rfl rfl ?_
      exact hj45 _ (by rw [if_neg hp45, if_neg hp60])
    · refine z_iload rfl rfl ?_
      refine z_aload_n rfl rfl ?_
      refine z_geti (ci := 7) 14 rfl hG.1 rfl w_672 ?_
      refine z_isub rfl ?_
      refine z_goto rfl ?_
      exact hj45 _ (by rw [if_neg hp45, if_pos hp60])
  · refine z_iload rfl rfl ?_
    refine z_aload_n rfl rfl ?_
    refine z_geti (ci := 7) 12 rfl hG.1 rfl w_670 ?_
    refine z_isub rfl ?_
    refine z_goto rfl ?_
    exact hj45 _ (by rw [if_pos hp45])
def r_isAlone (post : Int32 → Mem → Prop) (S : Mem) (l1 : Int32) : Prop :=
  ((¬ l1 < 0 → (vp_in ((8 * l1) + 7) 112))) ∧ 
  vp_nar .boolean (if l1 < 0 then 0 else (if 0 ≤ (S 154 ((8 * l1) + 7).toNatClampNeg) then 0 else 1 : Int32) : Int32) = (if l1 < 0 then 0 else (if 0 ≤ (S 154 ((8 * l1) + 7).toNatClampNeg) then 0 else 1 : Int32) : Int32) ∧ post (if l1 < 0 then 0 else (if 0 ≤ (S 154 ((8 * l1) + 7).toNatClampNeg) then 0 else 1 : Int32) : Int32) S
set_option maxRecDepth 100000 in
set_option maxHeartbeats 1000000 in
theorem zr_isAlone {g : Gm} {G : Gp} {S : Mem} {post : Int32 → Mem → Prop} {l1 : Int32} (hx : G.2.2.2 = false) (hG : isR G) (hw : r_isAlone post S l1) : Z g M_r_isAlone 0 0 0 (entryL [.ref 148, .int l1] (mL M_r_isAlone)) [] (S, G) (Qi G post noEx) := by
  unfold r_isAlone at hw
  show Z g M_r_isAlone 0 0 0 [some (.ref 148), some (.int l1)] [] (S, G) (Qi G post noEx)
  refine z_iload_n rfl rfl ?_
  obtain ⟨hc2, hw⟩ := hw
  have hj1 : ∀ v : Int32, v = (if l1 < 0 then 0 else (if 0 ≤ (S 154 ((8 * l1) + 7).toNatClampNeg) then 0 else 1 : Int32) : Int32) → Z g M_r_isAlone 0 0 19 [some (.ref 148), some (.int l1)] [.int v] (S, G) (Qi G post noEx) := by
    intro v hv
    subst hv
    obtain ⟨hc1, hw⟩ := hw
    exact z_zret rfl rfl (nar_of hc1) rfl rfl (Or.inl ⟨_, _, rfl, rfl, hw⟩)
  refine z_if_lt rfl (fun hp1 => ?_) (fun hp1 => ?_)
  · refine z_iconst 0 rfl rfl ?_
    exact hj1 _ (by rw [if_pos hp1])
  · refine z_aload_n rfl rfl ?_
    refine z_iload_n rfl rfl ?_
    refine z_bipush 7 rfl rfl ?_
    refine z_cvi (M' := M_r_of) (post := fun v S' => (S 154 ((8 * l1) + 7).toNatClampNeg) = v ∧ S = S') [.int l1, .int 7] hx rfl w_754 cv_r_of hG.1 (by decide) rfl rfl rfl rfl (zr_of hx hG  (⟨(hc2 hp1), ⟨rfl, rfl⟩⟩)) ?_ (fun _ _ hf => hf.elim)
    rintro v S' ⟨rfl, rfl⟩
    refine z_if_ge rfl (fun hp11 => ?_) (fun hp11 => ?_)
    · refine z_iconst 0 rfl rfl ?_
      exact hj1 _ (by rw [if_neg hp1, if_pos hp11])
    · refine z_iconst 1 rfl rfl ?_
      refine z_goto rfl ?_
      exact hj1 _ (by rw [if_neg hp1, if_neg hp11])
def r_fits_J50 (post : Int32 → Mem → Prop)  (S : Mem) (l1 : Int32) (l2 : Int32) (l3 : Int32) : Prop :=
  (vp_in ((4 * l1) + 1) 96) ∧ 
  r_find (fun r1 S1 =>
   ((r1 < 0) →
    post 0 S1) ∧
   ((¬ r1 < 0) →
    ((¬ r1 = l3) →
     ((¬ l2 = 6) →
      (vp_in ((4 * l1) + 1) 96) ∧ 
      r_isIn (fun r2 S2 =>
       ((¬ r2 = 0) →
        post 0 S2) ∧
       ((r2 = 0) →
        (vp_in ((4 * l1) + 0) 96) ∧ 
        r_isIn (fun r3 S3 =>
         ((¬ r3 = 0) →
          post 0 S3) ∧
         ((r3 = 0) →
          post 1 S3)) S2 r1 (S2 150 ((4 * l1) + 0).toNatClampNeg))) S1 l3 (S1 150 ((4 * l1) + 1).toNatClampNeg)) ∧
     ((l2 = 6) →
      r_isAlone (fun r4 S4 =>
       ((r4 = 0) →
        post 0 S4) ∧
       ((¬ r4 = 0) →
        r_isAlone (fun r5 S5 =>
         ((r5 = 0) →
          post 0 S5) ∧
         ((¬ r5 = 0) →
          post 1 S5)) S4 r1)) S1 l3)) ∧
    ((r1 = l3) →
     post 0 S1))) S (S 150 ((4 * l1) + 1).toNatClampNeg)
set_option maxRecDepth 100000 in
set_option maxHeartbeats 1000000 in
theorem zr_fits_J50 {g : Gm} {G : Gp} {post : Int32 → Mem → Prop} (hx : G.2.2.2 = false) (hG : isR G) {S : Mem} {l1 : Int32} {l2 : Int32} {l3 : Int32}  (hw : r_fits_J50 post S l1 l2 l3) : Z g M_r_fits 0 0 50 [some (.ref 148), some (.int l1), some (.int l2), some (.int l3), none] [] (S, G) (Qi G post noEx) := by
  unfold r_fits_J50 at hw
  refine z_aload_n rfl rfl ?_
  refine z_aload_n rfl rfl ?_
  refine z_iload_n rfl rfl ?_
  refine z_iconst 1 rfl rfl ?_
  obtain ⟨hc1, hw⟩ := hw
  refine z_cvi (M' := M_r_arg) (post := fun v S' => (S 150 ((4 * l1) + 1).toNatClampNeg) = v ∧ S = S') [.int l1, .int 1] hx rfl w_734 cv_r_arg hG.1 (by decide) rfl rfl rfl rfl (zr_arg hx hG (⟨hc1, ⟨rfl, rfl⟩⟩)) ?_ (fun _ _ hf => hf.elim)
  rintro v S' ⟨rfl, rfl⟩
  refine z_cvi (M' := M_r_find) [.int (S 150 ((4 * l1) + 1).toNatClampNeg)] hx rfl w_750 cv_r_find hG.1 (by decide) rfl rfl rfl rfl (zr_find hx hG hw) ?_ (fun _ _ hf => hf.elim)
  clear hw
  intro r1 S1 hw
  refine z_istore [some (.ref 148), some (.int l1), some (.int l2), some (.int l3), some (.int r1)] rfl rfl rfl ?_
  refine z_iload rfl rfl ?_
  refine z_if_lt rfl (fun hq => ?_) (fun hq => ?_)
  · replace hw := hw.1 hq
    refine z_iconst 0 rfl rfl ?_
    exact z_zret rfl rfl (by decide) rfl rfl (Or.inl ⟨_, _, rfl, rfl, hw⟩)
  · replace hw := hw.2 hq
    refine z_iload rfl rfl ?_
    refine z_iload_n rfl rfl ?_
    refine z_icmp_ne rfl (fun hq => ?_) (fun hq => ?_)
    · replace hw := hw.1 hq
      refine z_iload_n rfl rfl ?_
      refine z_bipush 6 rfl rfl ?_
      refine z_icmp_ne rfl (fun hq => ?_) (fun hq => ?_)
      · replace hw := hw.1 hq
        refine z_aload_n rfl rfl ?_
        refine z_iload_n rfl rfl ?_
        refine z_aload_n rfl rfl ?_
        refine z_iload_n rfl rfl ?_
        refine z_iconst 1 rfl rfl ?_
        obtain ⟨hc2, hw⟩ := hw
        refine z_cvi (M' := M_r_arg) (post := fun v S' => (S1 150 ((4 * l1) + 1).toNatClampNeg) = v ∧ S1 = S') [.int l1, .int 1] hx rfl w_734 cv_r_arg hG.1 (by decide) rfl rfl rfl rfl (zr_arg hx hG (⟨hc2, ⟨rfl, rfl⟩⟩)) ?_ (fun _ _ hf => hf.elim)
        rintro v S' ⟨rfl, rfl⟩
        refine z_cvi (M' := M_r_isIn) [.int l3, .int (S1 150 ((4 * l1) + 1).toNatClampNeg)] hx rfl w_762 cv_r_isIn hG.1 (by decide) rfl rfl rfl rfl (zr_isIn hx hG hw) ?_ (fun _ _ hf => hf.elim)
        clear hw
        intro r2 S2 hw
        refine z_if_ne rfl (fun hq => ?_) (fun hq => ?_)
        · replace hw := hw.1 hq
          refine z_iconst 0 rfl rfl ?_
          exact z_zret rfl rfl (by decide) rfl rfl (Or.inl ⟨_, _, rfl, rfl, hw⟩)
        · replace hw := hw.2 hq
          refine z_aload_n rfl rfl ?_
          refine z_iload rfl rfl ?_
          refine z_aload_n rfl rfl ?_
          refine z_iload_n rfl rfl ?_
          refine z_iconst 0 rfl rfl ?_
          obtain ⟨hc3, hw⟩ := hw
          refine z_cvi (M' := M_r_arg) (post := fun v S' => (S2 150 ((4 * l1) + 0).toNatClampNeg) = v ∧ S2 = S') [.int l1, .int 0] hx rfl w_734 cv_r_arg hG.1 (by decide) rfl rfl rfl rfl (zr_arg hx hG (⟨hc3, ⟨rfl, rfl⟩⟩)) ?_ (fun _ _ hf => hf.elim)
          rintro v S' ⟨rfl, rfl⟩
          refine z_cvi (M' := M_r_isIn) [.int r1, .int (S2 150 ((4 * l1) + 0).toNatClampNeg)] hx rfl w_762 cv_r_isIn hG.1 (by decide) rfl rfl rfl rfl (zr_isIn hx hG hw) ?_ (fun _ _ hf => hf.elim)
          clear hw
          intro r3 S3 hw
          refine z_if_ne rfl (fun hq => ?_) (fun hq => ?_)
          · replace hw := hw.1 hq
            refine z_iconst 0 rfl rfl ?_
            exact z_zret rfl rfl (by decide) rfl rfl (Or.inl ⟨_, _, rfl, rfl, hw⟩)
          · replace hw := hw.2 hq
            refine z_iconst 1 rfl rfl ?_
            refine z_goto rfl ?_
            exact z_zret rfl rfl (by decide) rfl rfl (Or.inl ⟨_, _, rfl, rfl, hw⟩)
      · replace hw := hw.2 hq
        refine z_aload_n rfl rfl ?_
        refine z_iload_n rfl rfl ?_
        refine z_cvi (M' := M_r_isAlone) [.int l3] hx rfl w_758 cv_r_isAlone hG.1 (by decide) rfl rfl rfl rfl (zr_isAlone hx hG hw) ?_ (fun _ _ hf => hf.elim)
        clear hw
        intro r4 S4 hw
        refine z_if_eq rfl (fun hq => ?_) (fun hq => ?_)
        · replace hw := hw.1 hq
          refine z_iconst 0 rfl rfl ?_
          refine z_goto rfl ?_
          exact z_zret rfl rfl (by decide) rfl rfl (Or.inl ⟨_, _, rfl, rfl, hw⟩)
        · replace hw := hw.2 hq
          refine z_aload_n rfl rfl ?_
          refine z_iload rfl rfl ?_
          refine z_cvi (M' := M_r_isAlone) [.int r1] hx rfl w_758 cv_r_isAlone hG.1 (by decide) rfl rfl rfl rfl (zr_isAlone hx hG hw) ?_ (fun _ _ hf => hf.elim)
          clear hw
          intro r5 S5 hw
          refine z_if_eq rfl (fun hq => ?_) (fun hq => ?_)
          · replace hw := hw.1 hq
            refine z_iconst 0 rfl rfl ?_
            refine z_goto rfl ?_
            exact z_zret rfl rfl (by decide) rfl rfl (Or.inl ⟨_, _, rfl, rfl, hw⟩)
          · replace hw := hw.2 hq
            refine z_iconst 1 rfl rfl ?_
            refine z_goto rfl ?_
            exact z_zret rfl rfl (by decide) rfl rfl (Or.inl ⟨_, _, rfl, rfl, hw⟩)
    · replace hw := hw.2 hq
      refine z_iconst 0 rfl rfl ?_
      exact z_zret rfl rfl (by decide) rfl rfl (Or.inl ⟨_, _, rfl, rfl, hw⟩)
def r_fits_J25 (post : Int32 → Mem → Prop)  (S : Mem) (l1 : Int32) (l2 : Int32) (k0 : Int32) : Prop :=
  ((¬ l2 = 0) →
   ((0 ≤ k0) →
    ((l2 = 6) →
     r_fits_J50 post S l1 l2 k0) ∧
    ((¬ l2 = 6) →
     ((¬ l2 = 9) →
      ((l2 = 7 → (vp_in ((8 * k0) + 1) 112)) ∧ (¬ l2 = 7 → (l2 = 8 → (vp_in ((8 * k0) + 1) 112)))) ∧ 
      vp_nar .boolean (if l2 = 7 then (if (S 154 ((8 * k0) + 1).toNatClampNeg) = 3 then 1 else 0 : Int32) else (if l2 = 8 then (if (S 154 ((8 * k0) + 1).toNatClampNeg) = 3 then 0 else 1 : Int32) else 1 : Int32) : Int32) = (if l2 = 7 then (if (S 154 ((8 * k0) + 1).toNatClampNeg) = 3 then 1 else 0 : Int32) else (if l2 = 8 then (if (S 154 ((8 * k0) + 1).toNatClampNeg) = 3 then 0 else 1 : Int32) else 1 : Int32) : Int32) ∧ post (if l2 = 7 then (if (S 154 ((8 * k0) + 1).toNatClampNeg) = 3 then 1 else 0 : Int32) else (if l2 = 8 then (if (S 154 ((8 * k0) + 1).toNatClampNeg) = 3 then 0 else 1 : Int32) else 1 : Int32) : Int32) S) ∧
     ((l2 = 9) →
      r_fits_J50 post S l1 l2 k0))) ∧
   ((¬ 0 ≤ k0) →
    post 0 S)) ∧
  ((l2 = 0) →
   post 1 S)
set_option maxRecDepth 100000 in
set_option maxHeartbeats 1000000 in
theorem zr_fits_J25 {g : Gm} {G : Gp} {post : Int32 → Mem → Prop} (hx : G.2.2.2 = false) (hG : isR G) {S : Mem} {l1 : Int32} {l2 : Int32} {k0 : Int32}  (hw : r_fits_J25 post S l1 l2 k0) : Z g M_r_fits 0 0 25 [some (.ref 148), some (.int l1), some (.int l2), none, none] [.int k0] (S, G) (Qi G post noEx) := by
  unfold r_fits_J25 at hw
  refine z_istore_n [some (.ref 148), some (.int l1), some (.int l2), some (.int k0), none] rfl rfl rfl ?_
  refine z_iload_n rfl rfl ?_
  refine z_if_ne rfl (fun hq => ?_) (fun hq => ?_)
  · replace hw := hw.1 hq
    refine z_iload_n rfl rfl ?_
    refine z_if_ge rfl (fun hq => ?_) (fun hq => ?_)
    · replace hw := hw.1 hq
      refine z_iload_n rfl rfl ?_
      refine z_bipush 6 rfl rfl ?_
      refine z_icmp_eq rfl (fun hq => ?_) (fun hq => ?_)
      · replace hw := hw.1 hq
        refine Z.forget' [some (.ref 148), some (.int l1), some (.int l2), some (.int k0), none] ⟨rfl, ⟨rfl, ⟨rfl, ⟨rfl, trivial⟩⟩⟩⟩ ?_
        exact zr_fits_J50 hx hG hw
      · replace hw := hw.2 hq
        refine z_iload_n rfl rfl ?_
        refine z_bipush 9 rfl rfl ?_
        refine z_icmp_ne rfl (fun hq => ?_) (fun hq => ?_)
        · replace hw := hw.1 hq
          refine z_iload_n rfl rfl ?_
          refine z_bipush 7 rfl rfl ?_
          obtain ⟨hc2, hw⟩ := hw
          have hj144 : ∀ v : Int32, v = (if l2 = 7 then (if (S 154 ((8 * k0) + 1).toNatClampNeg) = 3 then 1 else 0 : Int32) else (if l2 = 8 then (if (S 154 ((8 * k0) + 1).toNatClampNeg) = 3 then 0 else 1 : Int32) else 1 : Int32) : Int32) → Z g M_r_fits 0 0 186 [some (.ref 148), some (.int l1), some (.int l2), some (.int k0), none] [.int v] (S, G) (Qi G post noEx) := by
            intro v hv
            subst hv
            obtain ⟨hc1, hw⟩ := hw
            exact z_zret rfl rfl (nar_of hc1) rfl rfl (Or.inl ⟨_, _, rfl, rfl, hw⟩)
          refine z_icmp_ne rfl (fun hp144 => ?_) (fun hp144 => ?_)
          · refine z_iload_n rfl rfl ?_
            refine z_bipush 8 rfl rfl ?_
            refine z_icmp_ne rfl (fun hp168 => ?_) (fun hp168 => ?_)
            · refine z_iconst 1 rfl rfl ?_
              refine z_goto rfl ?_
              exact hj144 _ (by rw [if_neg hp144, if_neg hp168])
            · refine z_aload_n rfl rfl ?_
              refine z_iload_n rfl rfl ?_
              refine z_iconst 1 rfl rfl ?_
              refine z_cvi (M' := M_r_of) (post := fun v S' => (S 154 ((8 * k0) + 1).toNatClampNeg) = v ∧ S = S') [.int k0, .int 1] hx rfl w_754 cv_r_of hG.1 (by decide) rfl rfl rfl rfl (zr_of hx hG  (⟨((hc2.2 hp144) hp168), ⟨rfl, rfl⟩⟩)) ?_ (fun _ _ hf => hf.elim)
              rintro v S' ⟨rfl, rfl⟩
              refine z_iconst 3 rfl rfl ?_
              refine z_icmp_eq rfl (fun hp178 => ?_) (fun hp178 => ?_)
              · refine z_iconst 0 rfl rfl ?_
                exact hj144 _ (by rw [if_neg hp144, if_pos hp168, if_pos hp178])
              · refine z_iconst 1 rfl rfl ?_
                refine z_goto rfl ?_
                exact hj144 _ (by rw [if_neg hp144, if_pos hp168, if_neg hp178])
          · refine z_aload_n rfl rfl ?_
            refine z_iload_n rfl rfl ?_
            refine z_iconst 1 rfl rfl ?_
            refine z_cvi (M' := M_r_of) (post := fun v S' => (S 154 ((8 * k0) + 1).toNatClampNeg) = v ∧ S = S') [.int k0, .int 1] hx rfl w_754 cv_r_of hG.1 (by decide) rfl rfl rfl rfl (zr_of hx hG  (⟨(hc2.1 hp144), ⟨rfl, rfl⟩⟩)) ?_ (fun _ _ hf => hf.elim)
            rintro v S' ⟨rfl, rfl⟩
            refine z_iconst 3 rfl rfl ?_
            refine z_icmp_ne rfl (fun hp154 => ?_) (fun hp154 => ?_)
            · refine z_iconst 0 rfl rfl ?_
              refine z_goto rfl ?_
              exact hj144 _ (by rw [if_pos hp144, if_neg hp154])
            · refine z_iconst 1 rfl rfl ?_
              refine z_goto rfl ?_
              exact hj144 _ (by rw [if_pos hp144, if_pos hp154])
        · replace hw := hw.2 hq
          refine Z.forget' [some (.ref 148), some (.int l1), some (.int l2), some (.int k0), none] ⟨rfl, ⟨rfl, ⟨rfl, ⟨rfl, trivial⟩⟩⟩⟩ ?_
          exact zr_fits_J50 hx hG hw
    · replace hw := hw.2 hq
      refine z_iconst 0 rfl rfl ?_
      exact z_zret rfl rfl (by decide) rfl rfl (Or.inl ⟨_, _, rfl, rfl, hw⟩)
  · replace hw := hw.2 hq
    refine z_iconst 1 rfl rfl ?_
    exact z_zret rfl rfl (by decide) rfl rfl (Or.inl ⟨_, _, rfl, rfl, hw⟩)
def r_fits (post : Int32 → Mem → Prop) (S : Mem) (l1 : Int32) : Prop :=
  (vp_in l1 24) ∧ ((¬ (S 149 l1.toNatClampNeg) = 0) →
   (vp_in ((4 * l1) + 0) 96) ∧ 
   r_find (fun r1 S1 =>
    r_fits_J25 post S1 l1 (S 149 l1.toNatClampNeg) r1) S (S 150 ((4 * l1) + 0).toNatClampNeg)) ∧
  (((S 149 l1.toNatClampNeg) = 0) →
   r_fits_J25 post S l1 (S 149 l1.toNatClampNeg) 0)
set_option maxRecDepth 100000 in
set_option maxHeartbeats 1000000 in
theorem zr_fits {g : Gm} {G : Gp} {S : Mem} {post : Int32 → Mem → Prop} {l1 : Int32} (hx : G.2.2.2 = false) (hG : isR G) (hw : r_fits post S l1) : Z g M_r_fits 0 0 0 (entryL [.ref 148, .int l1] (mL M_r_fits)) [] (S, G) (Qi G post noEx) := by
  unfold r_fits at hw
  show Z g M_r_fits 0 0 0 [some (.ref 148), some (.int l1), none, none, none] [] (S, G) (Qi G post noEx)
  refine z_aload_n rfl rfl ?_
  refine z_getr (ci := 7) 2 rfl hG.1 rfl w_660 hG.2.1 ?_
  refine z_iload_n rfl rfl ?_
  obtain ⟨hc1, hw⟩ := hw
  refine z_iald (l1.toNatClampNeg) rfl hG.2.2.1 hc1 rfl ?_
  refine z_istore_n [some (.ref 148), some (.int l1), some (.int (S 149 l1.toNatClampNeg)), none, none] rfl rfl rfl ?_
  refine z_iload_n rfl rfl ?_
  refine z_if_ne rfl (fun hq => ?_) (fun hq => ?_)
  · replace hw := hw.1 hq
    refine z_aload_n rfl rfl ?_
    refine z_aload_n rfl rfl ?_
    refine z_iload_n rfl rfl ?_
    refine z_iconst 0 rfl rfl ?_
    obtain ⟨hc2, hw⟩ := hw
    refine z_cvi (M' := M_r_arg) (post := fun v S' => (S 150 ((4 * l1) + 0).toNatClampNeg) = v ∧ S = S') [.int l1, .int 0] hx rfl w_734 cv_r_arg hG.1 (by decide) rfl rfl rfl rfl (zr_arg hx hG (⟨hc2, ⟨rfl, rfl⟩⟩)) ?_ (fun _ _ hf => hf.elim)
    rintro v S' ⟨rfl, rfl⟩
    refine z_cvi (M' := M_r_find) [.int (S 150 ((4 * l1) + 0).toNatClampNeg)] hx rfl w_750 cv_r_find hG.1 (by decide) rfl rfl rfl rfl (zr_find hx hG hw) ?_ (fun _ _ hf => hf.elim)
    clear hw
    intro r1 S1 hw
    refine Z.forget' [some (.ref 148), some (.int l1), some (.int (S 149 l1.toNatClampNeg)), none, none] ⟨rfl, ⟨rfl, ⟨rfl, trivial⟩⟩⟩ ?_
    exact zr_fits_J25 hx hG hw
  · replace hw := hw.2 hq
    refine z_iconst 0 rfl rfl ?_
    refine z_goto rfl ?_
    refine Z.forget' [some (.ref 148), some (.int l1), some (.int (S 149 l1.toNatClampNeg)), none, none] ⟨rfl, ⟨rfl, ⟨rfl, trivial⟩⟩⟩ ?_
    exact zr_fits_J25 hx hG hw
def r_act_L155 (post : Mem → Prop)  : Nat → Mem → Int32 → Int32 → Int32 → Prop
  | 0, _, _, _, _ => False
  | n + 1, S, l2, l3, l5 =>
  ((l5 ≤ l2) →
   post S) ∧
  ((¬ l5 ≤ l2) →
   (vp_in ((8 * l2) + 1) 112) ∧ 
   (vp_in ((8 * l2) + 6) 112) ∧ ∀ S1, S1 = up2 S 154 ((8 * l2) + 6).toNatClampNeg (if (S 154 ((8 * l2) + 1).toNatClampNeg) = 3 then (-1) else l3 : Int32) → 
   r_act_L155 post n S1 (l2 + 1) l3 l5)
set_option maxRecDepth 100000 in
set_option maxHeartbeats 1000000 in
theorem zr_act_L155 {g : Gm} {G : Gp} {post : Mem → Prop} (hx : G.2.2.2 = false) (hG : isR G) : ∀ (n : Nat) {S : Mem} {l2 : Int32} {l3 : Int32} {l5 : Int32} , r_act_L155 post n S l2 l3 l5 → Z g M_r_act 0 0 155 [some (.ref 148), none, some (.int l2), some (.int l3), none, some (.int l5)] [] (S, G) (Qv G post noEx) := by
  intro n
  induction n with
  | zero =>
    intros
    rename_i hw
    exact hw.elim
  | succ n ih =>
    intro S l2 l3 l5 hw
    rw [r_act_L155] at hw
    refine z_iload_n rfl rfl ?_
    refine z_iload rfl rfl ?_
    refine z_icmp_ge rfl (fun hq => ?_) (fun hq => ?_)
    · replace hw := hw.1 hq
      refine z_goto rfl ?_
      exact z_vret rfl rfl rfl rfl (Or.inl ⟨_, rfl, rfl, hw⟩)
    · replace hw := hw.2 hq
      refine z_aload_n rfl rfl ?_
      refine z_iload_n rfl rfl ?_
      refine z_bipush 6 rfl rfl ?_
      refine z_aload_n rfl rfl ?_
      refine z_iload_n rfl rfl ?_
      refine z_iconst 1 rfl rfl ?_
      obtain ⟨hc1, hw⟩ := hw
      refine z_cvi (M' := M_r_of) (post := fun v S' => (S 154 ((8 * l2) + 1).toNatClampNeg) = v ∧ S = S') [.int l2, .int 1] hx rfl w_754 cv_r_of hG.1 (by decide) rfl rfl rfl rfl (zr_of hx hG (⟨hc1, ⟨rfl, rfl⟩⟩)) ?_ (fun _ _ hf => hf.elim)
      rintro v S' ⟨rfl, rfl⟩
      refine z_iconst 3 rfl rfl ?_
      have hj172 : ∀ v : Int32, v = (if (S 154 ((8 * l2) + 1).toNatClampNeg) = 3 then (-1) else l3 : Int32) → Z g M_r_act 0 0 180 [some (.ref 148), none, some (.int l2), some (.int l3), none, some (.int l5)] [.int v, .int 6, .int l2, .ref 148] (S, G) (Qv G post noEx) := by
        intro v hv
        subst hv
        obtain ⟨hc2, hw⟩ := hw
        replace hw := hw _ rfl
        refine z_cvv (M' := M_r_put) (post := fun S' => (up2 S 154 ((8 * l2) + 6).toNatClampNeg (if (S 154 ((8 * l2) + 1).toNatClampNeg) = 3 then (-1) else l3 : Int32)) = S') [.int l2, .int 6, .int (if (S 154 ((8 * l2) + 1).toNatClampNeg) = 3 then (-1) else l3 : Int32)] hx rfl w_774 cv_r_put hG.1 (by decide) rfl rfl rfl rfl (zr_put hx hG (⟨hc2, fun _ hS => by subst hS; exact rfl⟩)) ?_ (fun _ _ hf => hf.elim)
        rintro S' rfl
        refine z_iinc 1 [some (.ref 148), none, some (.int (l2 + 1)), some (.int l3), none, some (.int l5)] rfl rfl rfl rfl ?_
        refine z_goto rfl ?_
        refine Z.forget' [some (.ref 148), none, some (.int (l2 + 1)), some (.int l3), none, some (.int l5)] ⟨rfl, ⟨rfl, ⟨rfl, ⟨rfl, trivial⟩⟩⟩⟩ ?_
        exact ih hw
      refine z_icmp_ne rfl (fun hp172 => ?_) (fun hp172 => ?_)
      · refine z_iload_n rfl rfl ?_
        exact hj172 _ (by rw [if_neg hp172])
      · refine z_iconst (-1) rfl rfl ?_
        refine z_goto rfl ?_
        exact hj172 _ (by rw [if_pos hp172])
def r_act_J26 (post : Mem → Prop)  (S : Mem) (l1 : Int32) (k0 : Int32) : Prop :=
  (vp_in ((4 * l1) + 1) 96) ∧ 
  (vp_in ((4 * l1) + 2) 96) ∧ 
  (vp_in l1 24) ∧ ((S 149 l1.toNatClampNeg) = 0 → r_make (fun S1 =>
    post S1) S l1) ∧
  ((S 149 l1.toNatClampNeg) = 1 → r_delete (fun S2 =>
    post S2) S k0) ∧
  ((S 149 l1.toNatClampNeg) = 2 → r_behind (fun r3 S3 =>
    r_shift (fun S4 =>
     post S4) S3 k0 r3 (S 150 ((4 * l1) + 1).toNatClampNeg) (S 150 ((4 * l1) + 2).toNatClampNeg)) S k0) ∧
  ((S 149 l1.toNatClampNeg) = 3 → r_behind (fun r5 S5 =>
    r_scale (fun S6 =>
     post S6) S5 k0 r5 (S 150 ((4 * l1) + 1).toNatClampNeg) (S 150 ((4 * l1) + 2).toNatClampNeg)) S k0) ∧
  ((S 149 l1.toNatClampNeg) = 4 → r_behind (fun r7 S7 =>
    ∃ n, r_act_L155 post n S7 k0 (S 150 ((4 * l1) + 1).toNatClampNeg) r7) S k0) ∧
  ((S 149 l1.toNatClampNeg) = 5 → r_raise (fun S8 =>
    post S8) S k0 (if (S 150 ((4 * l1) + 1).toNatClampNeg) = 1 then 1 else 0 : Int32)) ∧
  ((S 149 l1.toNatClampNeg) = 6 → r_find (fun r9 S9 =>
    r_group (fun S10 =>
     post S10) S9 l1 k0 r9) S (S 150 ((4 * l1) + 1).toNatClampNeg)) ∧
  ((S 149 l1.toNatClampNeg) = 7 → r_ungroup (fun S11 =>
    post S11) S k0) ∧
  ((S 149 l1.toNatClampNeg) = 8 → r_twice (fun S12 =>
    post S12) S l1 k0 (S 150 ((4 * l1) + 1).toNatClampNeg) (S 150 ((4 * l1) + 2).toNatClampNeg)) ∧
  (((S 149 l1.toNatClampNeg).toInt < 0 ∨ 8 < (S 149 l1.toNatClampNeg).toInt) → r_find (fun r13 S13 =>
    r_align (fun S14 =>
     post S14) S13 k0 r13 (S 150 ((4 * l1) + 2).toNatClampNeg)) S (S 150 ((4 * l1) + 1).toNatClampNeg))
set_option maxRecDepth 100000 in
set_option maxHeartbeats 1000000 in
theorem zr_act_J26 {g : Gm} {G : Gp} {post : Mem → Prop} (hx : G.2.2.2 = false) (hG : isR G) {S : Mem} {l1 : Int32} {k0 : Int32}  (hw : r_act_J26 post S l1 k0) : Z g M_r_act 0 0 26 [some (.ref 148), some (.int l1), none, none, none, none] [.int k0] (S, G) (Qv G post noEx) := by
  unfold r_act_J26 at hw
  refine z_istore_n [some (.ref 148), some (.int l1), some (.int k0), none, none, none] rfl rfl rfl ?_
  refine z_aload_n rfl rfl ?_
  refine z_iload_n rfl rfl ?_
  refine z_iconst 1 rfl rfl ?_
  obtain ⟨hc1, hw⟩ := hw
  refine z_cvi (M' := M_r_arg) (post := fun v S' => (S 150 ((4 * l1) + 1).toNatClampNeg) = v ∧ S = S') [.int l1, .int 1] hx rfl w_734 cv_r_arg hG.1 (by decide) rfl rfl rfl rfl (zr_arg hx hG (⟨hc1, ⟨rfl, rfl⟩⟩)) ?_ (fun _ _ hf => hf.elim)
  rintro v S' ⟨rfl, rfl⟩
  refine z_istore_n [some (.ref 148), some (.int l1), some (.int k0), some (.int (S 150 ((4 * l1) + 1).toNatClampNeg)), none, none] rfl rfl rfl ?_
  refine z_aload_n rfl rfl ?_
  refine z_iload_n rfl rfl ?_
  refine z_iconst 2 rfl rfl ?_
  obtain ⟨hc2, hw⟩ := hw
  refine z_cvi (M' := M_r_arg) (post := fun v S' => (S 150 ((4 * l1) + 2).toNatClampNeg) = v ∧ S = S') [.int l1, .int 2] hx rfl w_734 cv_r_arg hG.1 (by decide) rfl rfl rfl rfl (zr_arg hx hG (⟨hc2, ⟨rfl, rfl⟩⟩)) ?_ (fun _ _ hf => hf.elim)
  rintro v S' ⟨rfl, rfl⟩
  refine z_istore [some (.ref 148), some (.int l1), some (.int k0), some (.int (S 150 ((4 * l1) + 1).toNatClampNeg)), some (.int (S 150 ((4 * l1) + 2).toNatClampNeg)), none] rfl rfl rfl ?_
  refine z_aload_n rfl rfl ?_
  refine z_getr (ci := 7) 2 rfl hG.1 rfl w_660 hG.2.1 ?_
  refine z_iload_n rfl rfl ?_
  obtain ⟨hc3, hw⟩ := hw
  refine z_iald (l1.toNatClampNeg) rfl hG.2.2.1 hc3 rfl ?_
  by_cases hr : (S 149 l1.toNatClampNeg).toInt < 0 ∨ 8 < (S 149 l1.toNatClampNeg).toInt
  · refine z_switch 244 rfl (sw_out hr rfl) ?_
    replace hw := hw.2.2.2.2.2.2.2.2.2 hr
    refine z_aload_n rfl rfl ?_
    refine z_iload_n rfl rfl ?_
    refine z_aload_n rfl rfl ?_
    refine z_iload_n rfl rfl ?_
    refine z_cvi (M' := M_r_find) [.int (S 150 ((4 * l1) + 1).toNatClampNeg)] hx rfl w_750 cv_r_find hG.1 (by decide) rfl rfl rfl rfl (zr_find hx hG hw) ?_ (fun _ _ hf => hf.elim)
    clear hw
    intro r13 S13 hw
    refine z_iload rfl rfl ?_
    refine z_cvv (M' := M_r_align) [.int k0, .int r13, .int (S 150 ((4 * l1) + 2).toNatClampNeg)] hx rfl w_839 cv_r_align hG.1 (by decide) rfl rfl rfl rfl (zr_align hx hG hw) ?_ (fun _ _ hf => hf.elim)
    clear hw
    intro S14 hw
    exact z_vret rfl rfl rfl rfl (Or.inl ⟨_, rfl, rfl, hw⟩)
  · rcases sw_0_8 hr with hq | hq | hq | hq | hq | hq | hq | hq | hq
    · replace hw := hw.1 hq
      refine z_switch 100 rfl (sw_eq hq rfl) ?_
      refine z_aload_n rfl rfl ?_
      refine z_iload_n rfl rfl ?_
      refine z_cvv (M' := M_r_make) [.int l1] hx rfl w_770 cv_r_make hG.1 (by decide) rfl rfl rfl rfl (zr_make hx hG hw) ?_ (fun _ _ hf => hf.elim)
      clear hw
      intro S1 hw
      refine z_goto rfl ?_
      exact z_vret rfl rfl rfl rfl (Or.inl ⟨_, rfl, rfl, hw⟩)
    · replace hw := hw.2.1 hq
      refine z_switch 108 rfl (sw_eq hq rfl) ?_
      refine z_aload_n rfl rfl ?_
      refine z_iload_n rfl rfl ?_
      refine z_cvv (M' := M_r_delete) [.int k0] hx rfl w_778 cv_r_delete hG.1 (by decide) rfl rfl rfl rfl (zr_delete hx hG hw) ?_ (fun _ _ hf => hf.elim)
      clear hw
      intro S2 hw
      refine z_goto rfl ?_
      exact z_vret rfl rfl rfl rfl (Or.inl ⟨_, rfl, rfl, hw⟩)
    · replace hw := hw.2.2.1 hq
      refine z_switch 116 rfl (sw_eq hq rfl) ?_
      refine z_aload_n rfl rfl ?_
      refine z_iload_n rfl rfl ?_
      refine z_aload_n rfl rfl ?_
      refine z_iload_n rfl rfl ?_
      refine z_cvi (M' := M_r_behind) [.int k0] hx rfl w_782 cv_r_behind hG.1 (by decide) rfl rfl rfl rfl (zr_behind hx hG hw) ?_ (fun _ _ hf => hf.elim)
      clear hw
      intro r3 S3 hw
      refine z_iload_n rfl rfl ?_
      refine z_iload rfl rfl ?_
      refine z_cvv (M' := M_r_shift) [.int k0, .int r3, .int (S 150 ((4 * l1) + 1).toNatClampNeg), .int (S 150 ((4 * l1) + 2).toNatClampNeg)] hx rfl w_794 cv_r_shift hG.1 (by decide) rfl rfl rfl rfl (zr_shift hx hG hw) ?_ (fun _ _ hf => hf.elim)
      clear hw
      intro S4 hw
      refine z_goto rfl ?_
      exact z_vret rfl rfl rfl rfl (Or.inl ⟨_, rfl, rfl, hw⟩)
    · replace hw := hw.2.2.2.1 hq
      refine z_switch 132 rfl (sw_eq hq rfl) ?_
      refine z_aload_n rfl rfl ?_
      refine z_iload_n rfl rfl ?_
      refine z_aload_n rfl rfl ?_
      refine z_iload_n rfl rfl ?_
      refine z_cvi (M' := M_r_behind) [.int k0] hx rfl w_782 cv_r_behind hG.1 (by decide) rfl rfl rfl rfl (zr_behind hx hG hw) ?_ (fun _ _ hf => hf.elim)
      clear hw
      intro r5 S5 hw
      refine z_iload_n rfl rfl ?_
      refine z_iload rfl rfl ?_
      refine z_cvv (M' := M_r_scale) [.int k0, .int r5, .int (S 150 ((4 * l1) + 1).toNatClampNeg), .int (S 150 ((4 * l1) + 2).toNatClampNeg)] hx rfl w_798 cv_r_scale hG.1 (by decide) rfl rfl rfl rfl (zr_scale hx hG hw) ?_ (fun _ _ hf => hf.elim)
      clear hw
      intro S6 hw
      refine z_goto rfl ?_
      exact z_vret rfl rfl rfl rfl (Or.inl ⟨_, rfl, rfl, hw⟩)
    · replace hw := hw.2.2.2.2.1 hq
      refine z_switch 148 rfl (sw_eq hq rfl) ?_
      refine z_aload_n rfl rfl ?_
      refine z_iload_n rfl rfl ?_
      refine z_cvi (M' := M_r_behind) [.int k0] hx rfl w_782 cv_r_behind hG.1 (by decide) rfl rfl rfl rfl (zr_behind hx hG hw) ?_ (fun _ _ hf => hf.elim)
      clear hw
      intro r7 S7 hw
      refine z_istore [some (.ref 148), some (.int l1), some (.int k0), some (.int (S 150 ((4 * l1) + 1).toNatClampNeg)), some (.int (S 150 ((4 * l1) + 2).toNatClampNeg)), some (.int r7)] rfl rfl rfl ?_
      refine Z.forget' [some (.ref 148), none, some (.int k0), some (.int (S 150 ((4 * l1) + 1).toNatClampNeg)), none, some (.int r7)] ⟨rfl, ⟨rfl, ⟨rfl, ⟨rfl, trivial⟩⟩⟩⟩ ?_
      obtain ⟨n, hw⟩ := hw
      exact zr_act_L155 hx hG n hw
    · replace hw := hw.2.2.2.2.2.1 hq
      refine z_switch 192 rfl (sw_eq hq rfl) ?_
      refine z_aload_n rfl rfl ?_
      refine z_iload_n rfl rfl ?_
      refine z_iload_n rfl rfl ?_
      refine z_iconst 1 rfl rfl ?_
      have hj196 : ∀ v : Int32, v = (if (S 150 ((4 * l1) + 1).toNatClampNeg) = 1 then 1 else 0 : Int32) → Z g M_r_act 0 0 204 [some (.ref 148), some (.int l1), some (.int k0), some (.int (S 150 ((4 * l1) + 1).toNatClampNeg)), some (.int (S 150 ((4 * l1) + 2).toNatClampNeg)), none] [.int v, .int k0, .ref 148] (S, G) (Qv G post noEx) := by
        intro v hv
        subst hv
        refine z_cvv (M' := M_r_raise) [.int k0, .int (if (S 150 ((4 * l1) + 1).toNatClampNeg) = 1 then 1 else 0 : Int32)] hx rfl w_811 cv_r_raise hG.1 (by decide) rfl rfl rfl rfl (zr_raise hx hG hw) ?_ (fun _ _ hf => hf.elim)
        clear hw
        intro S8 hw
        refine z_goto rfl ?_
        exact z_vret rfl rfl rfl rfl (Or.inl ⟨_, rfl, rfl, hw⟩)
      refine z_icmp_ne rfl (fun hp196 => ?_) (fun hp196 => ?_)
      · refine z_iconst 0 rfl rfl ?_
        exact hj196 _ (by rw [if_neg hp196])
      · refine z_iconst 1 rfl rfl ?_
        refine z_goto rfl ?_
        exact hj196 _ (by rw [if_pos hp196])
    · replace hw := hw.2.2.2.2.2.2.1 hq
      refine z_switch 210 rfl (sw_eq hq rfl) ?_
      refine z_aload_n rfl rfl ?_
      refine z_iload_n rfl rfl ?_
      refine z_iload_n rfl rfl ?_
      refine z_aload_n rfl rfl ?_
      refine z_iload_n rfl rfl ?_
      refine z_cvi (M' := M_r_find) [.int (S 150 ((4 * l1) + 1).toNatClampNeg)] hx rfl w_750 cv_r_find hG.1 (by decide) rfl rfl rfl rfl (zr_find hx hG hw) ?_ (fun _ _ hf => hf.elim)
      clear hw
      intro r9 S9 hw
      refine z_cvv (M' := M_r_group) [.int l1, .int k0, .int r9] hx rfl w_827 cv_r_group hG.1 (by decide) rfl rfl rfl rfl (zr_group hx hG hw) ?_ (fun _ _ hf => hf.elim)
      clear hw
      intro S10 hw
      refine z_goto rfl ?_
      exact z_vret rfl rfl rfl rfl (Or.inl ⟨_, rfl, rfl, hw⟩)
    · replace hw := hw.2.2.2.2.2.2.2.1 hq
      refine z_switch 224 rfl (sw_eq hq rfl) ?_
      refine z_aload_n rfl rfl ?_
      refine z_iload_n rfl rfl ?_
      refine z_cvv (M' := M_r_ungroup) [.int k0] hx rfl w_831 cv_r_ungroup hG.1 (by decide) rfl rfl rfl rfl (zr_ungroup hx hG hw) ?_ (fun _ _ hf => hf.elim)
      clear hw
      intro S11 hw
      refine z_goto rfl ?_
      exact z_vret rfl rfl rfl rfl (Or.inl ⟨_, rfl, rfl, hw⟩)
    · replace hw := hw.2.2.2.2.2.2.2.2.1 hq
      refine z_switch 232 rfl (sw_eq hq rfl) ?_
      refine z_aload_n rfl rfl ?_
      refine z_iload_n rfl rfl ?_
      refine z_iload_n rfl rfl ?_
      refine z_iload_n rfl rfl ?_
      refine z_iload rfl rfl ?_
      refine z_cvv (M' := M_r_twice) [.int l1, .int k0, .int (S 150 ((4 * l1) + 1).toNatClampNeg), .int (S 150 ((4 * l1) + 2).toNatClampNeg)] hx rfl w_835 cv_r_twice hG.1 (by decide) rfl rfl rfl rfl (zr_twice hx hG hw) ?_ (fun _ _ hf => hf.elim)
      clear hw
      intro S12 hw
      refine z_goto rfl ?_
      exact z_vret rfl rfl rfl rfl (Or.inl ⟨_, rfl, rfl, hw⟩)
def r_act (post : Mem → Prop) (S : Mem) (l1 : Int32) : Prop :=
  (vp_in l1 24) ∧ ((¬ (S 149 l1.toNatClampNeg) = 0) →
   (vp_in ((4 * l1) + 0) 96) ∧ 
   r_find (fun r1 S1 =>
    r_act_J26 post S1 l1 r1) S (S 150 ((4 * l1) + 0).toNatClampNeg)) ∧
  (((S 149 l1.toNatClampNeg) = 0) →
   r_act_J26 post S l1 (S 148 7))
set_option maxRecDepth 100000 in
set_option maxHeartbeats 1000000 in
theorem zr_act {g : Gm} {G : Gp} {S : Mem} {post : Mem → Prop} {l1 : Int32} (hx : G.2.2.2 = false) (hG : isR G) (hw : r_act post S l1) : Z g M_r_act 0 0 0 (entryL [.ref 148, .int l1] (mL M_r_act)) [] (S, G) (Qv G post noEx) := by
  unfold r_act at hw
  show Z g M_r_act 0 0 0 [some (.ref 148), some (.int l1), none, none, none, none] [] (S, G) (Qv G post noEx)
  refine z_aload_n rfl rfl ?_
  refine z_getr (ci := 7) 2 rfl hG.1 rfl w_660 hG.2.1 ?_
  refine z_iload_n rfl rfl ?_
  obtain ⟨hc1, hw⟩ := hw
  refine z_iald (l1.toNatClampNeg) rfl hG.2.2.1 hc1 rfl ?_
  refine z_if_ne rfl (fun hq => ?_) (fun hq => ?_)
  · replace hw := hw.1 hq
    refine z_aload_n rfl rfl ?_
    refine z_aload_n rfl rfl ?_
    refine z_iload_n rfl rfl ?_
    refine z_iconst 0 rfl rfl ?_
    obtain ⟨hc2, hw⟩ := hw
    refine z_cvi (M' := M_r_arg) (post := fun v S' => (S 150 ((4 * l1) + 0).toNatClampNeg) = v ∧ S = S') [.int l1, .int 0] hx rfl w_734 cv_r_arg hG.1 (by decide) rfl rfl rfl rfl (zr_arg hx hG (⟨hc2, ⟨rfl, rfl⟩⟩)) ?_ (fun _ _ hf => hf.elim)
    rintro v S' ⟨rfl, rfl⟩
    refine z_cvi (M' := M_r_find) [.int (S 150 ((4 * l1) + 0).toNatClampNeg)] hx rfl w_750 cv_r_find hG.1 (by decide) rfl rfl rfl rfl (zr_find hx hG hw) ?_ (fun _ _ hf => hf.elim)
    clear hw
    intro r1 S1 hw
    refine Z.forget' [some (.ref 148), some (.int l1), none, none, none, none] ⟨rfl, ⟨rfl, trivial⟩⟩ ?_
    exact zr_act_J26 hx hG hw
  · replace hw := hw.2 hq
    refine z_aload_n rfl rfl ?_
    refine z_geti (ci := 7) 7 rfl hG.1 rfl w_665 ?_
    refine z_goto rfl ?_
    refine Z.forget' [some (.ref 148), some (.int l1), none, none, none, none] ⟨rfl, ⟨rfl, trivial⟩⟩ ?_
    exact zr_act_J26 hx hG hw
