-- frames of the predicates, 1
theorem fr_Store_result_21 {g : hm_T} {dA : Nat → ClassId} {y0 : Nat} {K Kq : Int32 → hm_T → hz_T → Prop}  {h : hm_T} {z : hz_T} (d0 : dj g h) (hw : w_Store_result_21 dA y0 K h z) (hK : ∀ (v0 : Int32) (h : hm_T) (z : hz_T), dj g h → K v0 h z → Kq v0 (hJ g h) z) : w_Store_result_21 dA y0 Kq (hJ g h) z := by
  unfold w_Store_result_21 at hw ⊢
  exact hK _ _ _ d0 hw
theorem fr_Store_result {g : hm_T} {dA : Nat → ClassId} {y0 : Nat} {y1 : Int32} {K Kq : Int32 → hm_T → hz_T → Prop}  {h0 : hm_T} {z0 : hz_T} (d0 : dj g h0) (hw : w_Store_result dA y0 y1 K h0 z0) (hK : ∀ (v0 : Int32) (h : hm_T) (z : hz_T), dj g h → K v0 h z → Kq v0 (hJ g h) z) : w_Store_result dA y0 y1 Kq (hJ g h0) z0 := by
  unfold w_Store_result at hw ⊢
  exact fr_ite hw (fun hw => fr_Store_result_21  d0 hw hK) (fun hw => cg_I_fr d0 hw (fun v21 hw => fr_ite hw (fun hw => fr_Store_result_21  d0 hw hK) (fun hw => cg_R_fr d0 hw (fun v22 hw => cg_d_fr hw (fun a23 hw => cg_ai_fr d0 hw (fun v24 hw => hK _ _ _ d0 hw))))))
theorem fr_Store_root {g : hm_T} {dA : Nat → ClassId} {y0 : Nat} {K Kq : Int32 → hm_T → hz_T → Prop}  {h0 : hm_T} {z0 : hz_T} (d0 : dj g h0) (hw : w_Store_root dA y0 K h0 z0) (hK : ∀ (v0 : Int32) (h : hm_T) (z : hz_T), dj g h → K v0 h z → Kq v0 (hJ g h) z) : w_Store_root dA y0 Kq (hJ g h0) z0 := by
  unfold w_Store_root at hw ⊢
  exact cg_R_fr d0 hw (fun v21 hw => cg_d_fr hw (fun a22 hw => cg_I_fr d0 hw (fun v23 hw => fr_ite hw (fun hw => hK _ _ _ d0 hw) (fun hw => cg_R_fr d0 hw (fun v24 hw => cg_d_fr hw (fun a25 hw => cg_R_fr d0 hw (fun v26 hw => cg_d_fr hw (fun a27 hw => cg_ar_fr d0 hw (fun v28 hw => cg_d_fr hw (fun a29 hw => cg_I_fr d0 hw (fun v30 hw => hK _ _ _ d0 hw)))))))))))
theorem fr_Store_nodes {g : hm_T} {dA : Nat → ClassId} {y0 : Nat} {K Kq : Int32 → hm_T → hz_T → Prop}  {h0 : hm_T} {z0 : hz_T} (d0 : dj g h0) (hw : w_Store_nodes dA y0 K h0 z0) (hK : ∀ (v0 : Int32) (h : hm_T) (z : hz_T), dj g h → K v0 h z → Kq v0 (hJ g h) z) : w_Store_nodes dA y0 Kq (hJ g h0) z0 := by
  unfold w_Store_nodes at hw ⊢
  exact cg_R_fr d0 hw (fun v21 hw => cg_d_fr hw (fun a22 hw => cg_I_fr d0 hw (fun v23 hw => hK _ _ _ d0 hw)))
theorem fr_Store_isText_16 {g : hm_T} {dA : Nat → ClassId} {K Kq : Int32 → hm_T → hz_T → Prop}  {h : hm_T} {z : hz_T} (d0 : dj g h) (hw : w_Store_isText_16 dA K h z) (hK : ∀ (v0 : Int32) (h : hm_T) (z : hz_T), dj g h → K v0 h z → Kq v0 (hJ g h) z) : w_Store_isText_16 dA Kq (hJ g h) z := by
  unfold w_Store_isText_16 at hw ⊢
  exact hK _ _ _ d0 hw
theorem fr_Store_isText {g : hm_T} {dA : Nat → ClassId} {y0 : Option Nat} {K Kq : Int32 → hm_T → hz_T → Prop}  {h0 : hm_T} {z0 : hz_T} (d0 : dj g h0) (hw : w_Store_isText dA y0 K h0 z0) (hK : ∀ (v0 : Int32) (h : hm_T) (z : hz_T), dj g h → K v0 h z → Kq v0 (hJ g h) z) : w_Store_isText dA y0 Kq (hJ g h0) z0 := by
  unfold w_Store_isText at hw ⊢
  exact fr_ite hw (fun hw => fr_Store_isText_16  d0 hw hK) (fun hw => cg_d_fr hw (fun a21 hw => cg_I_fr d0 hw (fun v22 hw => fr_ite hw (fun hw => hK _ _ _ d0 hw) (fun hw => fr_Store_isText_16  d0 hw hK))))
theorem fr_Store_mayBeComment_54 {g : hm_T} {dA : Nat → ClassId} {K Kq : Int32 → hm_T → hz_T → Prop} {k2 k2q : Option Nat → Int32 → hm_T → hz_T → Prop} {x0 : Option Nat} {x1 : Int32}  {h : hm_T} {z : hz_T} (d0 : dj g h) (hw : w_Store_mayBeComment_54 dA K k2 x0 x1 h z) (hK : ∀ (v0 : Int32) (h : hm_T) (z : hz_T), dj g h → K v0 h z → Kq v0 (hJ g h) z) (hk2 : ∀ (v0 : Option Nat) (v1 : Int32) (h : hm_T) (z : hz_T), dj g h → k2 v0 v1 h z → k2q v0 v1 (hJ g h) z) : w_Store_mayBeComment_54 dA Kq k2q x0 x1 (hJ g h) z := by
  unfold w_Store_mayBeComment_54 at hw ⊢
  exact hk2 _ _ _ _ d0 hw
theorem fr_Store_mayBeComment_37 {g : hm_T} {dA : Nat → ClassId} {K Kq : Int32 → hm_T → hz_T → Prop} {k2 k2q : Option Nat → Int32 → hm_T → hz_T → Prop} {x0 : Option Nat} {x1 : Int32} {w0 : Int32}  {h : hm_T} {z : hz_T} (d0 : dj g h) (hw : w_Store_mayBeComment_37 dA K k2 x0 x1 w0 h z) (hK : ∀ (v0 : Int32) (h : hm_T) (z : hz_T), dj g h → K v0 h z → Kq v0 (hJ g h) z) (hk2 : ∀ (v0 : Option Nat) (v1 : Int32) (h : hm_T) (z : hz_T), dj g h → k2 v0 v1 h z → k2q v0 v1 (hJ g h) z) : w_Store_mayBeComment_37 dA Kq k2q x0 x1 w0 (hJ g h) z := by
  unfold w_Store_mayBeComment_37 at hw ⊢
  exact cg_d_fr hw (fun a25 hw => jd_at_fr hw (fun v26 hw => fr_ite hw (fun hw => fr_ite hw (fun hw => fr_Store_mayBeComment_54  d0 hw hK hk2) (fun hw => hK _ _ _ d0 hw)) (fun hw => fr_Store_mayBeComment_54  d0 hw hK hk2)))
theorem fr_Store_mayBeComment_32 {g : hm_T} {dA : Nat → ClassId} {K Kq : Int32 → hm_T → hz_T → Prop} {k2 k2q : Option Nat → Int32 → hm_T → hz_T → Prop} {x0 : Option Nat} {x1 : Int32}  {h : hm_T} {z : hz_T} (d0 : dj g h) (hw : w_Store_mayBeComment_32 dA K k2 x0 x1 h z) (hK : ∀ (v0 : Int32) (h : hm_T) (z : hz_T), dj g h → K v0 h z → Kq v0 (hJ g h) z) (hk2 : ∀ (v0 : Option Nat) (v1 : Int32) (h : hm_T) (z : hz_T), dj g h → k2 v0 v1 h z → k2q v0 v1 (hJ g h) z) : w_Store_mayBeComment_32 dA Kq k2q x0 x1 (hJ g h) z := by
  unfold w_Store_mayBeComment_32 at hw ⊢
  exact fr_Store_mayBeComment_37  d0 hw hK hk2
theorem fr_Store_mayBeComment_2 {g : hm_T} {dA : Nat → ClassId} {K Kq : Int32 → hm_T → hz_T → Prop} (hK : ∀ (v0 : Int32) (h : hm_T) (z : hz_T), dj g h → K v0 h z → Kq v0 (hJ g h) z) : ∀ (n9 : Nat) {x0 : Option Nat} {x1 : Int32} {h : hm_T} {z : hz_T}, dj g h → w_Store_mayBeComment_2 dA K n9 x0 x1 h z → w_Store_mayBeComment_2 dA Kq n9 x0 x1 (hJ g h) z := by
  intro n9
  induction n9 with
  | zero => intro x0 x1 h z d0 hw; unfold w_Store_mayBeComment_2 at hw; exact hw.elim
  | succ n9 ih =>
    intro x0 x1 h z d0 hw
    unfold w_Store_mayBeComment_2 at hw ⊢
    exact cg_d_fr hw (fun a21 hw => jd_len_fr hw (fun v22 hw => fr_ite hw (fun hw => hK _ _ _ d0 hw) (fun hw => cg_d_fr hw (fun a23 hw => jd_len_fr hw (fun v24 hw => fr_ite hw (fun hw => fr_Store_mayBeComment_32  d0 hw hK (fun _ _ _ _ d9 hw => ih d9 hw)) (fun hw => cg_d_fr hw (fun a27 hw => jd_at_fr hw (fun v28 hw => fr_ite hw (fun hw => fr_Store_mayBeComment_32  d0 hw hK (fun _ _ _ _ d9 hw => ih d9 hw)) (fun hw => fr_Store_mayBeComment_37  d0 hw hK (fun _ _ _ _ d9 hw => ih d9 hw))))))))))
theorem fr_Store_mayBeComment {g : hm_T} {dA : Nat → ClassId} {y0 : Option Nat} {K Kq : Int32 → hm_T → hz_T → Prop}  {h0 : hm_T} {z0 : hz_T} (d0 : dj g h0) (hw : w_Store_mayBeComment dA y0 K h0 z0) (hK : ∀ (v0 : Int32) (h : hm_T) (z : hz_T), dj g h → K v0 h z → Kq v0 (hJ g h) z) : w_Store_mayBeComment dA y0 Kq (hJ g h0) z0 := by
  unfold w_Store_mayBeComment at hw ⊢
  exact fr_Store_mayBeComment_2 hK _ d0 hw
theorem fr_Store_isSmallLetter_16 {g : hm_T} {dA : Nat → ClassId} {K Kq : Int32 → hm_T → hz_T → Prop}  {h : hm_T} {z : hz_T} (d0 : dj g h) (hw : w_Store_isSmallLetter_16 dA K h z) (hK : ∀ (v0 : Int32) (h : hm_T) (z : hz_T), dj g h → K v0 h z → Kq v0 (hJ g h) z) : w_Store_isSmallLetter_16 dA Kq (hJ g h) z := by
  unfold w_Store_isSmallLetter_16 at hw ⊢
  exact hK _ _ _ d0 hw
theorem fr_Store_isSmallLetter {g : hm_T} {dA : Nat → ClassId} {y0 : Int32} {K Kq : Int32 → hm_T → hz_T → Prop}  {h0 : hm_T} {z0 : hz_T} (d0 : dj g h0) (hw : w_Store_isSmallLetter dA y0 K h0 z0) (hK : ∀ (v0 : Int32) (h : hm_T) (z : hz_T), dj g h → K v0 h z → Kq v0 (hJ g h) z) : w_Store_isSmallLetter dA y0 Kq (hJ g h0) z0 := by
  unfold w_Store_isSmallLetter at hw ⊢
  exact fr_ite hw (fun hw => fr_Store_isSmallLetter_16  d0 hw hK) (fun hw => fr_ite hw (fun hw => fr_Store_isSmallLetter_16  d0 hw hK) (fun hw => hK _ _ _ d0 hw))
theorem fr_Attribute_name {g : hm_T} {dA : Nat → ClassId} {y0 : Nat} {K Kq : Option Nat → hm_T → hz_T → Prop}  {h0 : hm_T} {z0 : hz_T} (d0 : dj g h0) (hw : w_Attribute_name dA y0 K h0 z0) (hK : ∀ (v0 : Option Nat) (h : hm_T) (z : hz_T), dj g h → K v0 h z → Kq v0 (hJ g h) z) : w_Attribute_name dA y0 Kq (hJ g h0) z0 := by
  unfold w_Attribute_name at hw ⊢
  exact cg_R_fr d0 hw (fun v21 hw => hK _ _ _ d0 hw)
theorem fr_Attribute_value {g : hm_T} {dA : Nat → ClassId} {y0 : Nat} {K Kq : Option Nat → hm_T → hz_T → Prop}  {h0 : hm_T} {z0 : hz_T} (d0 : dj g h0) (hw : w_Attribute_value dA y0 K h0 z0) (hK : ∀ (v0 : Option Nat) (h : hm_T) (z : hz_T), dj g h → K v0 h z → Kq v0 (hJ g h) z) : w_Attribute_value dA y0 Kq (hJ g h0) z0 := by
  unfold w_Attribute_value at hw ⊢
  exact cg_R_fr d0 hw (fun v21 hw => hK _ _ _ d0 hw)
theorem fr_MarkupReader_passesLimits_2 {g : hm_T} {dA : Nat → ClassId} {y0 : Nat} {K Kq : Int32 → hm_T → hz_T → Prop} (hK : ∀ (v0 : Int32) (h : hm_T) (z : hz_T), dj g h → K v0 h z → Kq v0 (hJ g h) z) : ∀ (n9 : Nat) {x1 : Int32} {h : hm_T} {z : hz_T}, dj g h → w_MarkupReader_passesLimits_2 dA y0 K n9 x1 h z → w_MarkupReader_passesLimits_2 dA y0 Kq n9 x1 (hJ g h) z := by
  intro n9
  induction n9 with
  | zero => intro x1 h z d0 hw; unfold w_MarkupReader_passesLimits_2 at hw; exact hw.elim
  | succ n9 ih =>
    intro x1 h z d0 hw
    unfold w_MarkupReader_passesLimits_2 at hw ⊢
    exact cg_R_fr d0 hw (fun v21 hw => cg_d_fr hw (fun a22 hw => jd_sz_fr d0 hw (fun v23 hw => fr_ite hw (fun hw => cg_I_fr d0 hw (fun v24 hw => cg_z_fr hw (fun hw => hK _ _ _ d0 hw))) (fun hw => cg_R_fr d0 hw (fun v25 hw => cg_d_fr hw (fun a26 hw => jd_get_fr d0 hw (fun v27 hw => cg_c_fr d0 hw (fun hw => cg_R_fr d0 hw (fun v28 hw => cg_d_fr hw (fun a29 hw => cg_al_fr d0 hw (fun v30 hw => fr_ite hw (fun hw => ih d0 hw) (fun hw => hK _ _ _ d0 hw))))))))))))
theorem fr_MarkupReader_passesLimits {g : hm_T} {dA : Nat → ClassId} {y0 : Nat} {K Kq : Int32 → hm_T → hz_T → Prop}  {h0 : hm_T} {z0 : hz_T} (d0 : dj g h0) (hw : w_MarkupReader_passesLimits dA y0 K h0 z0) (hK : ∀ (v0 : Int32) (h : hm_T) (z : hz_T), dj g h → K v0 h z → Kq v0 (hJ g h) z) : w_MarkupReader_passesLimits dA y0 Kq (hJ g h0) z0 := by
  unfold w_MarkupReader_passesLimits at hw ⊢
  exact fr_MarkupReader_passesLimits_2 hK _ d0 hw
theorem fr_MarkupReader_firstText {g : hm_T} {dA : Nat → ClassId} {y0 : Nat} {K Kq : Option Nat → hm_T → hz_T → Prop}  {h0 : hm_T} {z0 : hz_T} (d0 : dj g h0) (hw : w_MarkupReader_firstText dA y0 K h0 z0) (hK : ∀ (v0 : Option Nat) (h : hm_T) (z : hz_T), dj g h → K v0 h z → Kq v0 (hJ g h) z) : w_MarkupReader_firstText dA y0 Kq (hJ g h0) z0 := by
  unfold w_MarkupReader_firstText at hw ⊢
  exact cg_R_fr d0 hw (fun v21 hw => cg_d_fr hw (fun a22 hw => jd_no_fr d0 hw (fun v23 hw => fr_ite hw (fun hw => cg_R_fr d0 hw (fun v24 hw => cg_d_fr hw (fun a25 hw => jd_get_fr d0 hw (fun v26 hw => cg_c_fr d0 hw (fun hw => cg_R_fr d0 hw (fun v27 hw => hK _ _ _ d0 hw)))))) (fun hw => cg_lit_fr hw (fun a28 hw => hK _ _ _ d0 hw)))))
theorem fr_Node_attributeNamed_2 {g : hm_T} {dA : Nat → ClassId} {y0 : Nat} {K Kq : Option Nat → hm_T → hz_T → Prop} (hK : ∀ (v0 : Option Nat) (h : hm_T) (z : hz_T), dj g h → K v0 h z → Kq v0 (hJ g h) z) : ∀ (n9 : Nat) {x1 : Option Nat} {x2 : Int32} {h : hm_T} {z : hz_T}, dj g h → w_Node_attributeNamed_2 dA y0 K n9 x1 x2 h z → w_Node_attributeNamed_2 dA y0 Kq n9 x1 x2 (hJ g h) z := by
  intro n9
  induction n9 with
  | zero => intro x1 x2 h z d0 hw; unfold w_Node_attributeNamed_2 at hw; exact hw.elim
  | succ n9 ih =>
    intro x1 x2 h z d0 hw
    unfold w_Node_attributeNamed_2 at hw ⊢
    exact cg_R_fr d0 hw (fun v21 hw => cg_d_fr hw (fun a22 hw => jd_sz_fr d0 hw (fun v23 hw => fr_ite hw (fun hw => hK _ _ _ d0 hw) (fun hw => cg_R_fr d0 hw (fun v24 hw => cg_d_fr hw (fun a25 hw => jd_get_fr d0 hw (fun v26 hw => cg_c_fr d0 hw (fun hw => cg_c_fr d0 hw (fun hw => fr_Attribute_name  d0 hw (fun v27 h28 z29 d1 hw => cg_d_fr hw (fun a30 hw => cg_d_fr hw (fun a31 hw => jd_eq_fr hw (fun v32 hw => fr_ite hw (fun hw => ih d1 hw) (fun hw => cg_R_fr d1 hw (fun v33 hw => cg_d_fr hw (fun a34 hw => jd_get_fr d1 hw (fun v35 hw => cg_c_fr d1 hw (fun hw => hK _ _ _ d1 hw))))))))))))))))))
theorem fr_Node_attributeNamed {g : hm_T} {dA : Nat → ClassId} {y0 : Nat} {y1 : Option Nat} {K Kq : Option Nat → hm_T → hz_T → Prop}  {h0 : hm_T} {z0 : hz_T} (d0 : dj g h0) (hw : w_Node_attributeNamed dA y0 y1 K h0 z0) (hK : ∀ (v0 : Option Nat) (h : hm_T) (z : hz_T), dj g h → K v0 h z → Kq v0 (hJ g h) z) : w_Node_attributeNamed dA y0 y1 Kq (hJ g h0) z0 := by
  unfold w_Node_attributeNamed at hw ⊢
  exact fr_Node_attributeNamed_2 hK _ d0 hw
theorem fr_Node_isOdd {g : hm_T} {dA : Nat → ClassId} {y0 : Int32} {K Kq : Int32 → hm_T → hz_T → Prop}  {h0 : hm_T} {z0 : hz_T} (d0 : dj g h0) (hw : w_Node_isOdd dA y0 K h0 z0) (hK : ∀ (v0 : Int32) (h : hm_T) (z : hz_T), dj g h → K v0 h z → Kq v0 (hJ g h) z) : w_Node_isOdd dA y0 Kq (hJ g h0) z0 := by
  unfold w_Node_isOdd at hw ⊢
  exact fr_ite hw (fun hw => hK _ _ _ d0 hw) (fun hw => hK _ _ _ d0 hw)
theorem fr_Node_oddAbove {g : hm_T} {dA : Nat → ClassId} {y0 : Int32} {K Kq : Int32 → hm_T → hz_T → Prop}  {h0 : hm_T} {z0 : hz_T} (d0 : dj g h0) (hw : w_Node_oddAbove dA y0 K h0 z0) (hK : ∀ (v0 : Int32) (h : hm_T) (z : hz_T), dj g h → K v0 h z → Kq v0 (hJ g h) z) : w_Node_oddAbove dA y0 Kq (hJ g h0) z0 := by
  unfold w_Node_oddAbove at hw ⊢
  exact fr_Node_isOdd  d0 hw (fun v21 h22 z23 d1 hw => fr_ite hw (fun hw => hK _ _ _ d1 hw) (fun hw => hK _ _ _ d1 hw))
theorem fr_Node_oddBelow {g : hm_T} {dA : Nat → ClassId} {y0 : Int32} {K Kq : Int32 → hm_T → hz_T → Prop}  {h0 : hm_T} {z0 : hz_T} (d0 : dj g h0) (hw : w_Node_oddBelow dA y0 K h0 z0) (hK : ∀ (v0 : Int32) (h : hm_T) (z : hz_T), dj g h → K v0 h z → Kq v0 (hJ g h) z) : w_Node_oddBelow dA y0 Kq (hJ g h0) z0 := by
  unfold w_Node_oddBelow at hw ⊢
  exact fr_Node_isOdd  d0 hw (fun v21 h22 z23 d1 hw => fr_ite hw (fun hw => hK _ _ _ d1 hw) (fun hw => hK _ _ _ d1 hw))
theorem fr_PathReader_isAxis {g : hm_T} {dA : Nat → ClassId} {y0 : Int32} {K Kq : Int32 → hm_T → hz_T → Prop}  {h0 : hm_T} {z0 : hz_T} (d0 : dj g h0) (hw : w_PathReader_isAxis dA y0 K h0 z0) (hK : ∀ (v0 : Int32) (h : hm_T) (z : hz_T), dj g h → K v0 h z → Kq v0 (hJ g h) z) : w_PathReader_isAxis dA y0 Kq (hJ g h0) z0 := by
  unfold w_PathReader_isAxis at hw ⊢
  exact cg_lit_fr hw (fun a21 hw => jd_idx_fr hw (fun v22 hw => fr_ite hw (fun hw => hK _ _ _ d0 hw) (fun hw => hK _ _ _ d0 hw)))
theorem fr_PathReader_isKindSign {g : hm_T} {dA : Nat → ClassId} {y0 : Int32} {K Kq : Int32 → hm_T → hz_T → Prop}  {h0 : hm_T} {z0 : hz_T} (d0 : dj g h0) (hw : w_PathReader_isKindSign dA y0 K h0 z0) (hK : ∀ (v0 : Int32) (h : hm_T) (z : hz_T), dj g h → K v0 h z → Kq v0 (hJ g h) z) : w_PathReader_isKindSign dA y0 Kq (hJ g h0) z0 := by
  unfold w_PathReader_isKindSign at hw ⊢
  exact cg_lit_fr hw (fun a21 hw => jd_idx_fr hw (fun v22 hw => fr_ite hw (fun hw => hK _ _ _ d0 hw) (fun hw => hK _ _ _ d0 hw)))
theorem fr_PathReader_isDigit_16 {g : hm_T} {dA : Nat → ClassId} {K Kq : Int32 → hm_T → hz_T → Prop}  {h : hm_T} {z : hz_T} (d0 : dj g h) (hw : w_PathReader_isDigit_16 dA K h z) (hK : ∀ (v0 : Int32) (h : hm_T) (z : hz_T), dj g h → K v0 h z → Kq v0 (hJ g h) z) : w_PathReader_isDigit_16 dA Kq (hJ g h) z := by
  unfold w_PathReader_isDigit_16 at hw ⊢
  exact hK _ _ _ d0 hw
theorem fr_PathReader_isDigit {g : hm_T} {dA : Nat → ClassId} {y0 : Int32} {K Kq : Int32 → hm_T → hz_T → Prop}  {h0 : hm_T} {z0 : hz_T} (d0 : dj g h0) (hw : w_PathReader_isDigit dA y0 K h0 z0) (hK : ∀ (v0 : Int32) (h : hm_T) (z : hz_T), dj g h → K v0 h z → Kq v0 (hJ g h) z) : w_PathReader_isDigit dA y0 Kq (hJ g h0) z0 := by
  unfold w_PathReader_isDigit at hw ⊢
  exact fr_ite hw (fun hw => fr_PathReader_isDigit_16  d0 hw hK) (fun hw => fr_ite hw (fun hw => fr_PathReader_isDigit_16  d0 hw hK) (fun hw => hK _ _ _ d0 hw))
theorem fr_Scribe_put_16 {g : hm_T} {dA : Nat → ClassId} {y0 : Nat} {K Kq : hm_T → hz_T → Prop}  {h : hm_T} {z : hz_T} (d0 : dj g h) (hw : w_Scribe_put_16 dA y0 K h z) (hK : ∀ (h : hm_T) (z : hz_T), dj g h → K  h z → Kq  (hJ g h) z) : w_Scribe_put_16 dA y0 Kq (hJ g h) z := by
  unfold w_Scribe_put_16 at hw ⊢
  exact cg_I_fr d0 hw (fun v23 hw => cg_p_fr d0 hw (fun h24 d1 hw => hK _ _ d1 hw))
theorem fr_Scribe_put {g : hm_T} {dA : Nat → ClassId} {y0 : Nat} {y1 : Int32} {K Kq : hm_T → hz_T → Prop}  {h0 : hm_T} {z0 : hz_T} (d0 : dj g h0) (hw : w_Scribe_put dA y0 y1 K h0 z0) (hK : ∀ (h : hm_T) (z : hz_T), dj g h → K  h z → Kq  (hJ g h) z) : w_Scribe_put dA y0 y1 Kq (hJ g h0) z0 := by
  unfold w_Scribe_put at hw ⊢
  exact cg_I_fr d0 hw (fun v21 hw => cg_I_fr d0 hw (fun v22 hw => fr_ite hw (fun hw => cg_p_fr d0 hw (fun h25 d1 hw => fr_Scribe_put_16  d1 hw hK)) (fun hw => fr_Scribe_put_16  d0 hw hK)))
theorem fr_Step_goesBackwards_36 {g : hm_T} {dA : Nat → ClassId} {y0 : Nat} {K Kq : Int32 → hm_T → hz_T → Prop}  {h : hm_T} {z : hz_T} (d0 : dj g h) (hw : w_Step_goesBackwards_36 dA y0 K h z) (hK : ∀ (v0 : Int32) (h : hm_T) (z : hz_T), dj g h → K v0 h z → Kq v0 (hJ g h) z) : w_Step_goesBackwards_36 dA y0 Kq (hJ g h) z := by
  unfold w_Step_goesBackwards_36 at hw ⊢
  exact hK _ _ _ d0 hw
theorem fr_Step_goesBackwards {g : hm_T} {dA : Nat → ClassId} {y0 : Nat} {K Kq : Int32 → hm_T → hz_T → Prop}  {h0 : hm_T} {z0 : hz_T} (d0 : dj g h0) (hw : w_Step_goesBackwards dA y0 K h0 z0) (hK : ∀ (v0 : Int32) (h : hm_T) (z : hz_T), dj g h → K v0 h z → Kq v0 (hJ g h) z) : w_Step_goesBackwards dA y0 Kq (hJ g h0) z0 := by
  unfold w_Step_goesBackwards at hw ⊢
  exact cg_I_fr d0 hw (fun v21 hw => fr_ite hw (fun hw => fr_Step_goesBackwards_36  d0 hw hK) (fun hw => cg_I_fr d0 hw (fun v22 hw => fr_ite hw (fun hw => fr_Step_goesBackwards_36  d0 hw hK) (fun hw => cg_I_fr d0 hw (fun v23 hw => fr_ite hw (fun hw => fr_Step_goesBackwards_36  d0 hw hK) (fun hw => cg_I_fr d0 hw (fun v24 hw => fr_ite hw (fun hw => fr_Step_goesBackwards_36  d0 hw hK) (fun hw => hK _ _ _ d0 hw))))))))
theorem fr_Step_takes {g : hm_T} {dA : Nat → ClassId} {y0 : Nat} {y1 : Option Nat} {K Kq : Int32 → hm_T → hz_T → Prop}  {h0 : hm_T} {z0 : hz_T} (d0 : dj g h0) (hw : w_Step_takes dA y0 y1 K h0 z0) (hK : ∀ (v0 : Int32) (h : hm_T) (z : hz_T), dj g h → K v0 h z → Kq v0 (hJ g h) z) : w_Step_takes dA y0 y1 Kq (hJ g h0) z0 := by
  unfold w_Step_takes at hw ⊢
  exact cg_I_fr d0 hw (fun v21 hw => fr_ite hw (fun hw => cg_d_fr hw (fun a22 hw => cg_I_fr d0 hw (fun v23 hw => fr_ite hw (fun hw => hK _ _ _ d0 hw) (fun hw => hK _ _ _ d0 hw)))) (fun hw => fr_ite hw (fun hw => cg_d_fr hw (fun a24 hw => cg_I_fr d0 hw (fun v25 hw => fr_ite hw (fun hw => hK _ _ _ d0 hw) (fun hw => hK _ _ _ d0 hw)))) (fun hw => fr_ite hw (fun hw => cg_d_fr hw (fun a26 hw => cg_I_fr d0 hw (fun v27 hw => fr_ite hw (fun hw => hK _ _ _ d0 hw) (fun hw => hK _ _ _ d0 hw)))) (fun hw => fr_ite hw (fun hw => hK _ _ _ d0 hw) (fun hw => cg_d_fr hw (fun a28 hw => cg_I_fr d0 hw (fun v29 hw => fr_ite hw (fun hw => cg_d_fr hw (fun a30 hw => cg_R_fr d0 hw (fun v31 hw => cg_R_fr d0 hw (fun v32 hw => cg_d_fr hw (fun a33 hw => cg_d_fr hw (fun a34 hw => jd_eq_fr hw (fun v35 hw => fr_ite hw (fun hw => hK _ _ _ d0 hw) (fun hw => hK _ _ _ d0 hw)))))))) (fun hw => hK _ _ _ d0 hw))))))))
theorem fr_TextReader_failed6 {g : hm_T} {dA : Nat → ClassId} {y0 : Nat} {K Kq : Int32 → hm_T → hz_T → Prop}  {h0 : hm_T} {z0 : hz_T} (d0 : dj g h0) (hw : w_TextReader_failed6 dA y0 K h0 z0) (hK : ∀ (v0 : Int32) (h : hm_T) (z : hz_T), dj g h → K v0 h z → Kq v0 (hJ g h) z) : w_TextReader_failed6 dA y0 Kq (hJ g h0) z0 := by
  unfold w_TextReader_failed6 at hw ⊢
  exact cg_I_fr d0 hw (fun v21 hw => fr_ite hw (fun hw => hK _ _ _ d0 hw) (fun hw => hK _ _ _ d0 hw))
theorem fr_TextReader_failed10 {g : hm_T} {dA : Nat → ClassId} {y0 : Nat} {K Kq : Int32 → hm_T → hz_T → Prop}  {h0 : hm_T} {z0 : hz_T} (d0 : dj g h0) (hw : w_TextReader_failed10 dA y0 K h0 z0) (hK : ∀ (v0 : Int32) (h : hm_T) (z : hz_T), dj g h → K v0 h z → Kq v0 (hJ g h) z) : w_TextReader_failed10 dA y0 Kq (hJ g h0) z0 := by
  unfold w_TextReader_failed10 at hw ⊢
  exact cg_I_fr d0 hw (fun v21 hw => fr_ite hw (fun hw => hK _ _ _ d0 hw) (fun hw => hK _ _ _ d0 hw))
theorem fr_TextReader_failAt6 {g : hm_T} {dA : Nat → ClassId} {y0 : Nat} {y1 : Int32} {K Kq : Int32 → hm_T → hz_T → Prop}  {h0 : hm_T} {z0 : hz_T} (d0 : dj g h0) (hw : w_TextReader_failAt6 dA y0 y1 K h0 z0) (hK : ∀ (v0 : Int32) (h : hm_T) (z : hz_T), dj g h → K v0 h z → Kq v0 (hJ g h) z) : w_TextReader_failAt6 dA y0 y1 Kq (hJ g h0) z0 := by
  unfold w_TextReader_failAt6 at hw ⊢
  exact cg_p_fr d0 hw (fun h21 d1 hw => hK _ _ _ d1 hw)
theorem fr_TextReader_failAt10 {g : hm_T} {dA : Nat → ClassId} {y0 : Nat} {y1 : Int32} {K Kq : Int32 → hm_T → hz_T → Prop}  {h0 : hm_T} {z0 : hz_T} (d0 : dj g h0) (hw : w_TextReader_failAt10 dA y0 y1 K h0 z0) (hK : ∀ (v0 : Int32) (h : hm_T) (z : hz_T), dj g h → K v0 h z → Kq v0 (hJ g h) z) : w_TextReader_failAt10 dA y0 y1 Kq (hJ g h0) z0 := by
  unfold w_TextReader_failAt10 at hw ⊢
  exact cg_p_fr d0 hw (fun h21 d1 hw => hK _ _ _ d1 hw)
theorem fr_TextReader_seen6 {g : hm_T} {dA : Nat → ClassId} {y0 : Nat} {y1 : Int32} {K Kq : Int32 → hm_T → hz_T → Prop}  {h0 : hm_T} {z0 : hz_T} (d0 : dj g h0) (hw : w_TextReader_seen6 dA y0 y1 K h0 z0) (hK : ∀ (v0 : Int32) (h : hm_T) (z : hz_T), dj g h → K v0 h z → Kq v0 (hJ g h) z) : w_TextReader_seen6 dA y0 y1 Kq (hJ g h0) z0 := by
  unfold w_TextReader_seen6 at hw ⊢
  exact cg_R_fr d0 hw (fun v21 hw => cg_d_fr hw (fun a22 hw => jd_len_fr hw (fun v23 hw => fr_ite hw (fun hw => hK _ _ _ d0 hw) (fun hw => cg_R_fr d0 hw (fun v24 hw => cg_d_fr hw (fun a25 hw => jd_at_fr hw (fun v26 hw => cg_ch_fr hw (fun hw => hK _ _ _ d0 hw))))))))
theorem fr_TextReader_seen10 {g : hm_T} {dA : Nat → ClassId} {y0 : Nat} {y1 : Int32} {K Kq : Int32 → hm_T → hz_T → Prop}  {h0 : hm_T} {z0 : hz_T} (d0 : dj g h0) (hw : w_TextReader_seen10 dA y0 y1 K h0 z0) (hK : ∀ (v0 : Int32) (h : hm_T) (z : hz_T), dj g h → K v0 h z → Kq v0 (hJ g h) z) : w_TextReader_seen10 dA y0 y1 Kq (hJ g h0) z0 := by
  unfold w_TextReader_seen10 at hw ⊢
  exact cg_R_fr d0 hw (fun v21 hw => cg_d_fr hw (fun a22 hw => jd_len_fr hw (fun v23 hw => fr_ite hw (fun hw => hK _ _ _ d0 hw) (fun hw => cg_R_fr d0 hw (fun v24 hw => cg_d_fr hw (fun a25 hw => jd_at_fr hw (fun v26 hw => cg_ch_fr hw (fun hw => hK _ _ _ d0 hw))))))))
theorem fr_TextReader_take6 {g : hm_T} {dA : Nat → ClassId} {y0 : Nat} {y1 : Int32} {K Kq : Int32 → hm_T → hz_T → Prop}  {h0 : hm_T} {z0 : hz_T} (d0 : dj g h0) (hw : w_TextReader_take6 dA y0 y1 K h0 z0) (hK : ∀ (v0 : Int32) (h : hm_T) (z : hz_T), dj g h → K v0 h z → Kq v0 (hJ g h) z) : w_TextReader_take6 dA y0 y1 Kq (hJ g h0) z0 := by
  unfold w_TextReader_take6 at hw ⊢
  exact cg_I_fr d0 hw (fun v21 hw => cg_c_fr d0 hw (fun hw => fr_TextReader_seen6  d0 hw (fun v22 h23 z24 d1 hw => fr_ite hw (fun hw => cg_I_fr d1 hw (fun v25 hw => cg_p_fr d1 hw (fun h26 d2 hw => hK _ _ _ d2 hw))) (fun hw => cg_I_fr d1 hw (fun v27 hw => cg_c_fr d1 hw (fun hw => fr_TextReader_failAt6  d1 hw (fun v28 h29 z30 d3 hw => cg_z_fr hw (fun hw => hK _ _ _ d3 hw))))))))
theorem fr_TextReader_take10 {g : hm_T} {dA : Nat → ClassId} {y0 : Nat} {y1 : Int32} {K Kq : Int32 → hm_T → hz_T → Prop}  {h0 : hm_T} {z0 : hz_T} (d0 : dj g h0) (hw : w_TextReader_take10 dA y0 y1 K h0 z0) (hK : ∀ (v0 : Int32) (h : hm_T) (z : hz_T), dj g h → K v0 h z → Kq v0 (hJ g h) z) : w_TextReader_take10 dA y0 y1 Kq (hJ g h0) z0 := by
  unfold w_TextReader_take10 at hw ⊢
  exact cg_I_fr d0 hw (fun v21 hw => cg_c_fr d0 hw (fun hw => fr_TextReader_seen10  d0 hw (fun v22 h23 z24 d1 hw => fr_ite hw (fun hw => cg_I_fr d1 hw (fun v25 hw => cg_p_fr d1 hw (fun h26 d2 hw => hK _ _ _ d2 hw))) (fun hw => cg_I_fr d1 hw (fun v27 hw => cg_c_fr d1 hw (fun hw => fr_TextReader_failAt10  d1 hw (fun v28 h29 z30 d3 hw => cg_z_fr hw (fun hw => hK _ _ _ d3 hw))))))))
theorem fr_TextReader_readEnd6_25 {g : hm_T} {dA : Nat → ClassId} {y0 : Nat} {K Kq : Int32 → hm_T → hz_T → Prop}  {h : hm_T} {z : hz_T} (d0 : dj g h) (hw : w_TextReader_readEnd6_25 dA y0 K h z) (hK : ∀ (v0 : Int32) (h : hm_T) (z : hz_T), dj g h → K v0 h z → Kq v0 (hJ g h) z) : w_TextReader_readEnd6_25 dA y0 Kq (hJ g h) z := by
  unfold w_TextReader_readEnd6_25 at hw ⊢
  exact hK _ _ _ d0 hw
theorem fr_TextReader_readEnd6 {g : hm_T} {dA : Nat → ClassId} {y0 : Nat} {K Kq : Int32 → hm_T → hz_T → Prop}  {h0 : hm_T} {z0 : hz_T} (d0 : dj g h0) (hw : w_TextReader_readEnd6 dA y0 K h0 z0) (hK : ∀ (v0 : Int32) (h : hm_T) (z : hz_T), dj g h → K v0 h z → Kq v0 (hJ g h) z) : w_TextReader_readEnd6 dA y0 Kq (hJ g h0) z0 := by
  unfold w_TextReader_readEnd6 at hw ⊢
  exact cg_I_fr d0 hw (fun v21 hw => cg_R_fr d0 hw (fun v22 hw => cg_d_fr hw (fun a23 hw => jd_len_fr hw (fun v24 hw => fr_ite hw (fun hw => fr_TextReader_readEnd6_25  d0 hw hK) (fun hw => cg_I_fr d0 hw (fun v25 hw => cg_c_fr d0 hw (fun hw => fr_TextReader_failAt6  d0 hw (fun v26 h27 z28 d1 hw => fr_ite hw (fun hw => hK _ _ _ d1 hw) (fun hw => fr_TextReader_readEnd6_25  d1 hw hK)))))))))
theorem fr_TextReader_readEnd10_25 {g : hm_T} {dA : Nat → ClassId} {y0 : Nat} {K Kq : Int32 → hm_T → hz_T → Prop}  {h : hm_T} {z : hz_T} (d0 : dj g h) (hw : w_TextReader_readEnd10_25 dA y0 K h z) (hK : ∀ (v0 : Int32) (h : hm_T) (z : hz_T), dj g h → K v0 h z → Kq v0 (hJ g h) z) : w_TextReader_readEnd10_25 dA y0 Kq (hJ g h) z := by
  unfold w_TextReader_readEnd10_25 at hw ⊢
  exact hK _ _ _ d0 hw
theorem fr_TextReader_readEnd10 {g : hm_T} {dA : Nat → ClassId} {y0 : Nat} {K Kq : Int32 → hm_T → hz_T → Prop}  {h0 : hm_T} {z0 : hz_T} (d0 : dj g h0) (hw : w_TextReader_readEnd10 dA y0 K h0 z0) (hK : ∀ (v0 : Int32) (h : hm_T) (z : hz_T), dj g h → K v0 h z → Kq v0 (hJ g h) z) : w_TextReader_readEnd10 dA y0 Kq (hJ g h0) z0 := by
  unfold w_TextReader_readEnd10 at hw ⊢
  exact cg_I_fr d0 hw (fun v21 hw => cg_R_fr d0 hw (fun v22 hw => cg_d_fr hw (fun a23 hw => jd_len_fr hw (fun v24 hw => fr_ite hw (fun hw => fr_TextReader_readEnd10_25  d0 hw hK) (fun hw => cg_I_fr d0 hw (fun v25 hw => cg_c_fr d0 hw (fun hw => fr_TextReader_failAt10  d0 hw (fun v26 h27 z28 d1 hw => fr_ite hw (fun hw => hK _ _ _ d1 hw) (fun hw => fr_TextReader_readEnd10_25  d1 hw hK)))))))))
theorem fr_Tree_find_25 {g : hm_T} {dA : Nat → ClassId} {y0 : Nat} {K Kq : Option Nat → hm_T → hz_T → Prop}  {h : hm_T} {z : hz_T} (d0 : dj g h) (hw : w_Tree_find_25 dA y0 K h z) (hK : ∀ (v0 : Option Nat) (h : hm_T) (z : hz_T), dj g h → K v0 h z → Kq v0 (hJ g h) z) : w_Tree_find_25 dA y0 Kq (hJ g h) z := by
  unfold w_Tree_find_25 at hw ⊢
  exact hK _ _ _ d0 hw
theorem fr_Tree_find {g : hm_T} {dA : Nat → ClassId} {y0 : Nat} {y1 : Int32} {K Kq : Option Nat → hm_T → hz_T → Prop}  {h0 : hm_T} {z0 : hz_T} (d0 : dj g h0) (hw : w_Tree_find dA y0 y1 K h0 z0) (hK : ∀ (v0 : Option Nat) (h : hm_T) (z : hz_T), dj g h → K v0 h z → Kq v0 (hJ g h) z) : w_Tree_find dA y0 y1 Kq (hJ g h0) z0 := by
  unfold w_Tree_find at hw ⊢
  exact fr_ite hw (fun hw => fr_Tree_find_25  d0 hw hK) (fun hw => cg_I_fr d0 hw (fun v21 hw => fr_ite hw (fun hw => fr_Tree_find_25  d0 hw hK) (fun hw => cg_R_fr d0 hw (fun v22 hw => cg_d_fr hw (fun a23 hw => cg_ar_fr d0 hw (fun v24 hw => cg_d_fr hw (fun a25 hw => cg_I_fr d0 hw (fun v26 hw => fr_ite hw (fun hw => fr_Tree_find_25  d0 hw hK) (fun hw => cg_R_fr d0 hw (fun v27 hw => cg_d_fr hw (fun a28 hw => cg_ar_fr d0 hw (fun v29 hw => hK _ _ _ d0 hw))))))))))))
theorem fr_Tree_mayMake {g : hm_T} {dA : Nat → ClassId} {y0 : Nat} {y1 : Int32} {K Kq : Int32 → hm_T → hz_T → Prop}  {h0 : hm_T} {z0 : hz_T} (d0 : dj g h0) (hw : w_Tree_mayMake dA y0 y1 K h0 z0) (hK : ∀ (v0 : Int32) (h : hm_T) (z : hz_T), dj g h → K v0 h z → Kq v0 (hJ g h) z) : w_Tree_mayMake dA y0 y1 Kq (hJ g h0) z0 := by
  unfold w_Tree_mayMake at hw ⊢
  exact cg_I_fr d0 hw (fun v21 hw => fr_ite hw (fun hw => hK _ _ _ d0 hw) (fun hw => hK _ _ _ d0 hw))
theorem fr_Tree_endOf_37 {g : hm_T} {dA : Nat → ClassId} {y0 : Nat} {K Kq : Int32 → hm_T → hz_T → Prop} {x2 : Int32}  {h : hm_T} {z : hz_T} (d0 : dj g h) (hw : w_Tree_endOf_37 dA y0 K x2 h z) (hK : ∀ (v0 : Int32) (h : hm_T) (z : hz_T), dj g h → K v0 h z → Kq v0 (hJ g h) z) : w_Tree_endOf_37 dA y0 Kq x2 (hJ g h) z := by
  unfold w_Tree_endOf_37 at hw ⊢
  exact hK _ _ _ d0 hw
theorem fr_Tree_endOf_7 {g : hm_T} {dA : Nat → ClassId} {y0 : Nat} {K Kq : Int32 → hm_T → hz_T → Prop} (hK : ∀ (v0 : Int32) (h : hm_T) (z : hz_T), dj g h → K v0 h z → Kq v0 (hJ g h) z) : ∀ (n9 : Nat) {x1 : Option Nat} {x2 : Int32} {h : hm_T} {z : hz_T}, dj g h → w_Tree_endOf_7 dA y0 K n9 x1 x2 h z → w_Tree_endOf_7 dA y0 Kq n9 x1 x2 (hJ g h) z := by
  intro n9
  induction n9 with
  | zero => intro x1 x2 h z d0 hw; unfold w_Tree_endOf_7 at hw; exact hw.elim
  | succ n9 ih =>
    intro x1 x2 h z d0 hw
    unfold w_Tree_endOf_7 at hw ⊢
    exact cg_I_fr d0 hw (fun v23 hw => fr_ite hw (fun hw => fr_Tree_endOf_37  d0 hw hK) (fun hw => cg_R_fr d0 hw (fun v24 hw => cg_d_fr hw (fun a25 hw => cg_ar_fr d0 hw (fun v26 hw => cg_d_fr hw (fun a27 hw => cg_I_fr d0 hw (fun v28 hw => cg_d_fr hw (fun a29 hw => cg_I_fr d0 hw (fun v30 hw => fr_ite hw (fun hw => fr_Tree_endOf_37  d0 hw hK) (fun hw => ih d0 hw))))))))))
theorem fr_Tree_endOf {g : hm_T} {dA : Nat → ClassId} {y0 : Nat} {y1 : Option Nat} {K Kq : Int32 → hm_T → hz_T → Prop}  {h0 : hm_T} {z0 : hz_T} (d0 : dj g h0) (hw : w_Tree_endOf dA y0 y1 K h0 z0) (hK : ∀ (v0 : Int32) (h : hm_T) (z : hz_T), dj g h → K v0 h z → Kq v0 (hJ g h) z) : w_Tree_endOf dA y0 y1 Kq (hJ g h0) z0 := by
  unfold w_Tree_endOf at hw ⊢
  exact cg_d_fr hw (fun a21 hw => cg_I_fr d0 hw (fun v22 hw => fr_Tree_endOf_7 hK _ d0 hw))
theorem fr_Tree_childBefore_4 {g : hm_T} {dA : Nat → ClassId} {y0 : Nat} {K Kq : Option Nat → hm_T → hz_T → Prop} (hK : ∀ (v0 : Option Nat) (h : hm_T) (z : hz_T), dj g h → K v0 h z → Kq v0 (hJ g h) z) : ∀ (n9 : Nat) {x1 : Option Nat} {x3 : Int32} {h : hm_T} {z : hz_T}, dj g h → w_Tree_childBefore_4 dA y0 K n9 x1 x3 h z → w_Tree_childBefore_4 dA y0 Kq n9 x1 x3 (hJ g h) z := by
  intro n9
  induction n9 with
  | zero => intro x1 x3 h z d0 hw; unfold w_Tree_childBefore_4 at hw; exact hw.elim
  | succ n9 ih =>
    intro x1 x3 h z d0 hw
    unfold w_Tree_childBefore_4 at hw ⊢
    exact cg_d_fr hw (fun a21 hw => cg_I_fr d0 hw (fun v22 hw => fr_ite hw (fun hw => hK _ _ _ d0 hw) (fun hw => cg_R_fr d0 hw (fun v23 hw => cg_d_fr hw (fun a24 hw => cg_ar_fr d0 hw (fun v25 hw => cg_d_fr hw (fun a26 hw => cg_R_fr d0 hw (fun v27 hw => fr_ite hw (fun hw => cg_R_fr d0 hw (fun v28 hw => cg_d_fr hw (fun a29 hw => cg_ar_fr d0 hw (fun v30 hw => hK _ _ _ d0 hw)))) (fun hw => ih d0 hw)))))))))
theorem fr_Tree_childBefore {g : hm_T} {dA : Nat → ClassId} {y0 : Nat} {y1 : Option Nat} {y2 : Int32} {K Kq : Option Nat → hm_T → hz_T → Prop}  {h0 : hm_T} {z0 : hz_T} (d0 : dj g h0) (hw : w_Tree_childBefore dA y0 y1 y2 K h0 z0) (hK : ∀ (v0 : Option Nat) (h : hm_T) (z : hz_T), dj g h → K v0 h z → Kq v0 (hJ g h) z) : w_Tree_childBefore dA y0 y1 y2 Kq (hJ g h0) z0 := by
  unfold w_Tree_childBefore at hw ⊢
  exact fr_Tree_childBefore_4 hK _ d0 hw
theorem fr_Tree_childFrom_2 {g : hm_T} {dA : Nat → ClassId} {y0 : Nat} {K Kq : Option Nat → hm_T → hz_T → Prop} (hK : ∀ (v0 : Option Nat) (h : hm_T) (z : hz_T), dj g h → K v0 h z → Kq v0 (hJ g h) z) : ∀ (n9 : Nat) {x1 : Option Nat} {x3 : Int32} {h : hm_T} {z : hz_T}, dj g h → w_Tree_childFrom_2 dA y0 K n9 x1 x3 h z → w_Tree_childFrom_2 dA y0 Kq n9 x1 x3 (hJ g h) z := by
  intro n9
  induction n9 with
  | zero => intro x1 x3 h z d0 hw; unfold w_Tree_childFrom_2 at hw; exact hw.elim
  | succ n9 ih =>
    intro x1 x3 h z d0 hw
    unfold w_Tree_childFrom_2 at hw ⊢
    exact cg_I_fr d0 hw (fun v21 hw => fr_ite hw (fun hw => hK _ _ _ d0 hw) (fun hw => cg_R_fr d0 hw (fun v22 hw => cg_d_fr hw (fun a23 hw => cg_ar_fr d0 hw (fun v24 hw => cg_d_fr hw (fun a25 hw => cg_R_fr d0 hw (fun v26 hw => fr_ite hw (fun hw => cg_R_fr d0 hw (fun v27 hw => cg_d_fr hw (fun a28 hw => cg_ar_fr d0 hw (fun v29 hw => hK _ _ _ d0 hw)))) (fun hw => ih d0 hw))))))))
theorem fr_Tree_childFrom {g : hm_T} {dA : Nat → ClassId} {y0 : Nat} {y1 : Option Nat} {y2 : Int32} {K Kq : Option Nat → hm_T → hz_T → Prop}  {h0 : hm_T} {z0 : hz_T} (d0 : dj g h0) (hw : w_Tree_childFrom dA y0 y1 y2 K h0 z0) (hK : ∀ (v0 : Option Nat) (h : hm_T) (z : hz_T), dj g h → K v0 h z → Kq v0 (hJ g h) z) : w_Tree_childFrom dA y0 y1 y2 Kq (hJ g h0) z0 := by
  unfold w_Tree_childFrom at hw ⊢
  exact fr_Tree_childFrom_2 hK _ d0 hw
theorem fr_Tree_childrenWithin_29 {g : hm_T} {dA : Nat → ClassId} {y0 : Nat} {K Kq : Int32 → hm_T → hz_T → Prop} {k6 k6q : Option Nat → Int32 → Int32 → Int32 → hm_T → hz_T → Prop} {x1 : Option Nat} {x3 : Int32} {x4 : Int32} {x5 : Int32}  {h : hm_T} {z : hz_T} (d0 : dj g h) (hw : w_Tree_childrenWithin_29 dA y0 K k6 x1 x3 x4 x5 h z) (hK : ∀ (v0 : Int32) (h : hm_T) (z : hz_T), dj g h → K v0 h z → Kq v0 (hJ g h) z) (hk6 : ∀ (v0 : Option Nat) (v1 : Int32) (v2 : Int32) (v3 : Int32) (h : hm_T) (z : hz_T), dj g h → k6 v0 v1 v2 v3 h z → k6q v0 v1 v2 v3 (hJ g h) z) : w_Tree_childrenWithin_29 dA y0 Kq k6q x1 x3 x4 x5 (hJ g h) z := by
  unfold w_Tree_childrenWithin_29 at hw ⊢
  exact hk6 _ _ _ _ _ _ d0 hw
theorem fr_Tree_childrenWithin_6 {g : hm_T} {dA : Nat → ClassId} {y0 : Nat} {K Kq : Int32 → hm_T → hz_T → Prop} (hK : ∀ (v0 : Int32) (h : hm_T) (z : hz_T), dj g h → K v0 h z → Kq v0 (hJ g h) z) : ∀ (n9 : Nat) {x1 : Option Nat} {x3 : Int32} {x4 : Int32} {x5 : Int32} {h : hm_T} {z : hz_T}, dj g h → w_Tree_childrenWithin_6 dA y0 K n9 x1 x3 x4 x5 h z → w_Tree_childrenWithin_6 dA y0 Kq n9 x1 x3 x4 x5 (hJ g h) z := by
  intro n9
  induction n9 with
  | zero => intro x1 x3 x4 x5 h z d0 hw; unfold w_Tree_childrenWithin_6 at hw; exact hw.elim
  | succ n9 ih =>
    intro x1 x3 x4 x5 h z d0 hw
    unfold w_Tree_childrenWithin_6 at hw ⊢
    exact fr_ite hw (fun hw => hK _ _ _ d0 hw) (fun hw => cg_R_fr d0 hw (fun v21 hw => cg_d_fr hw (fun a22 hw => cg_ar_fr d0 hw (fun v23 hw => cg_d_fr hw (fun a24 hw => cg_R_fr d0 hw (fun v25 hw => fr_ite hw (fun hw => fr_Tree_childrenWithin_29  d0 hw hK (fun _ _ _ _ _ _ d9 hw => ih d9 hw)) (fun hw => fr_Tree_childrenWithin_29  d0 hw hK (fun _ _ _ _ _ _ d9 hw => ih d9 hw))))))))
theorem fr_Tree_childrenWithin {g : hm_T} {dA : Nat → ClassId} {y0 : Nat} {y1 : Option Nat} {y2 : Int32} {y3 : Int32} {K Kq : Int32 → hm_T → hz_T → Prop}  {h0 : hm_T} {z0 : hz_T} (d0 : dj g h0) (hw : w_Tree_childrenWithin dA y0 y1 y2 y3 K h0 z0) (hK : ∀ (v0 : Int32) (h : hm_T) (z : hz_T), dj g h → K v0 h z → Kq v0 (hJ g h) z) : w_Tree_childrenWithin dA y0 y1 y2 y3 Kq (hJ g h0) z0 := by
  unfold w_Tree_childrenWithin at hw ⊢
  exact fr_Tree_childrenWithin_6 hK _ d0 hw
theorem fr_Tree_setPlaces_2 {g : hm_T} {dA : Nat → ClassId} {y0 : Nat} {K Kq : hm_T → hz_T → Prop} (hK : ∀ (h : hm_T) (z : hz_T), dj g h → K  h z → Kq  (hJ g h) z) : ∀ (n9 : Nat) {x1 : Int32} {h : hm_T} {z : hz_T}, dj g h → w_Tree_setPlaces_2 dA y0 K n9 x1 h z → w_Tree_setPlaces_2 dA y0 Kq n9 x1 (hJ g h) z := by
  intro n9
  induction n9 with
  | zero => intro x1 h z d0 hw; unfold w_Tree_setPlaces_2 at hw; exact hw.elim
  | succ n9 ih =>
    intro x1 h z d0 hw
    unfold w_Tree_setPlaces_2 at hw ⊢
    exact cg_I_fr d0 hw (fun v21 hw => fr_ite hw (fun hw => hK _ _ d0 hw) (fun hw => cg_R_fr d0 hw (fun v22 hw => cg_d_fr hw (fun a23 hw => cg_ar_fr d0 hw (fun v24 hw => cg_d_fr hw (fun a25 hw => cg_p_fr d0 hw (fun h26 d1 hw => ih d1 hw)))))))
theorem fr_Tree_setPlaces {g : hm_T} {dA : Nat → ClassId} {y0 : Nat} {K Kq : hm_T → hz_T → Prop}  {h0 : hm_T} {z0 : hz_T} (d0 : dj g h0) (hw : w_Tree_setPlaces dA y0 K h0 z0) (hK : ∀ (h : hm_T) (z : hz_T), dj g h → K  h z → Kq  (hJ g h) z) : w_Tree_setPlaces dA y0 Kq (hJ g h0) z0 := by
  unfold w_Tree_setPlaces at hw ⊢
  exact fr_Tree_setPlaces_2 hK _ d0 hw
theorem fr_Walker_has {g : hm_T} {dA : Nat → ClassId} {y0 : Int64} {y2 : Int32} {K Kq : Int32 → hm_T → hz_T → Prop}  {h0 : hm_T} {z0 : hz_T} (d0 : dj g h0) (hw : w_Walker_has dA y0 y2 K h0 z0) (hK : ∀ (v0 : Int32) (h : hm_T) (z : hz_T), dj g h → K v0 h z → Kq v0 (hJ g h) z) : w_Walker_has dA y0 y2 Kq (hJ g h0) z0 := by
  unfold w_Walker_has at hw ⊢
  exact fr_ite hw (fun hw => hK _ _ _ d0 hw) (fun hw => hK _ _ _ d0 hw)
theorem fr_Walker_withAttribute_86 {g : hm_T} {dA : Nat → ClassId} {y0 : Nat} {K Kq : Int64 → hm_T → hz_T → Prop} {k5 k5q : Option Nat → Int64 → Int32 → hm_T → hz_T → Prop} {x1 : Option Nat} {x4 : Int32} {w0 : Int64} {w1 : Int64}  {h : hm_T} {z : hz_T} (d0 : dj g h) (hw : w_Walker_withAttribute_86 dA y0 K k5 x1 x4 w0 w1 h z) (hK : ∀ (v0 : Int64) (h : hm_T) (z : hz_T), dj g h → K v0 h z → Kq v0 (hJ g h) z) (hk5 : ∀ (v0 : Option Nat) (v1 : Int64) (v2 : Int32) (h : hm_T) (z : hz_T), dj g h → k5 v0 v1 v2 h z → k5q v0 v1 v2 (hJ g h) z) : w_Walker_withAttribute_86 dA y0 Kq k5q x1 x4 w0 w1 (hJ g h) z := by
  unfold w_Walker_withAttribute_86 at hw ⊢
  exact hk5 _ _ _ _ _ d0 hw
theorem fr_Walker_withAttribute_70 {g : hm_T} {dA : Nat → ClassId} {y0 : Nat} {K Kq : Int64 → hm_T → hz_T → Prop} {k5 k5q : Option Nat → Int64 → Int32 → hm_T → hz_T → Prop} {x1 : Option Nat} {x2 : Int64} {x4 : Int32} {w0 : Int32}  {h : hm_T} {z : hz_T} (d0 : dj g h) (hw : w_Walker_withAttribute_70 dA y0 K k5 x1 x2 x4 w0 h z) (hK : ∀ (v0 : Int64) (h : hm_T) (z : hz_T), dj g h → K v0 h z → Kq v0 (hJ g h) z) (hk5 : ∀ (v0 : Option Nat) (v1 : Int64) (v2 : Int32) (h : hm_T) (z : hz_T), dj g h → k5 v0 v1 v2 h z → k5q v0 v1 v2 (hJ g h) z) : w_Walker_withAttribute_70 dA y0 Kq k5q x1 x2 x4 w0 (hJ g h) z := by
  unfold w_Walker_withAttribute_70 at hw ⊢
  exact fr_ite hw (fun hw => fr_Walker_withAttribute_86  d0 hw hK hk5) (fun hw => fr_Walker_withAttribute_86  d0 hw hK hk5)
theorem fr_Walker_withAttribute_69 {g : hm_T} {dA : Nat → ClassId} {y0 : Nat} {K Kq : Int64 → hm_T → hz_T → Prop} {k5 k5q : Option Nat → Int64 → Int32 → hm_T → hz_T → Prop} {x1 : Option Nat} {x2 : Int64} {x4 : Int32}  {h : hm_T} {z : hz_T} (d0 : dj g h) (hw : w_Walker_withAttribute_69 dA y0 K k5 x1 x2 x4 h z) (hK : ∀ (v0 : Int64) (h : hm_T) (z : hz_T), dj g h → K v0 h z → Kq v0 (hJ g h) z) (hk5 : ∀ (v0 : Option Nat) (v1 : Int64) (v2 : Int32) (h : hm_T) (z : hz_T), dj g h → k5 v0 v1 v2 h z → k5q v0 v1 v2 (hJ g h) z) : w_Walker_withAttribute_69 dA y0 Kq k5q x1 x2 x4 (hJ g h) z := by
  unfold w_Walker_withAttribute_69 at hw ⊢
  exact fr_Walker_withAttribute_70  d0 hw hK hk5
theorem fr_Walker_withAttribute_65 {g : hm_T} {dA : Nat → ClassId} {y0 : Nat} {K Kq : Int64 → hm_T → hz_T → Prop} {k5 k5q : Option Nat → Int64 → Int32 → hm_T → hz_T → Prop} {x1 : Option Nat} {x2 : Int64} {x4 : Int32}  {h : hm_T} {z : hz_T} (d0 : dj g h) (hw : w_Walker_withAttribute_65 dA y0 K k5 x1 x2 x4 h z) (hK : ∀ (v0 : Int64) (h : hm_T) (z : hz_T), dj g h → K v0 h z → Kq v0 (hJ g h) z) (hk5 : ∀ (v0 : Option Nat) (v1 : Int64) (v2 : Int32) (h : hm_T) (z : hz_T), dj g h → k5 v0 v1 v2 h z → k5q v0 v1 v2 (hJ g h) z) : w_Walker_withAttribute_65 dA y0 Kq k5q x1 x2 x4 (hJ g h) z := by
  unfold w_Walker_withAttribute_65 at hw ⊢
  exact fr_Walker_withAttribute_70  d0 hw hK hk5
theorem fr_Walker_withAttribute_5 {g : hm_T} {dA : Nat → ClassId} {y0 : Nat} {K Kq : Int64 → hm_T → hz_T → Prop} (hK : ∀ (v0 : Int64) (h : hm_T) (z : hz_T), dj g h → K v0 h z → Kq v0 (hJ g h) z) : ∀ (n9 : Nat) {x1 : Option Nat} {x2 : Int64} {x4 : Int32} {h : hm_T} {z : hz_T}, dj g h → w_Walker_withAttribute_5 dA y0 K n9 x1 x2 x4 h z → w_Walker_withAttribute_5 dA y0 Kq n9 x1 x2 x4 (hJ g h) z := by
  intro n9
  induction n9 with
  | zero => intro x1 x2 x4 h z d0 hw; unfold w_Walker_withAttribute_5 at hw; exact hw.elim
  | succ n9 ih =>
    intro x1 x2 x4 h z d0 hw
    unfold w_Walker_withAttribute_5 at hw ⊢
    exact cg_R_fr d0 hw (fun v21 hw => cg_d_fr hw (fun a22 hw => cg_I_fr d0 hw (fun v23 hw => fr_ite hw (fun hw => hK _ _ _ d0 hw) (fun hw => cg_R_fr d0 hw (fun v24 hw => cg_d_fr hw (fun a25 hw => cg_R_fr d0 hw (fun v26 hw => cg_d_fr hw (fun a27 hw => cg_ar_fr d0 hw (fun v28 hw => cg_d_fr hw (fun a29 hw => cg_R_fr d0 hw (fun v30 hw => cg_d_fr hw (fun a31 hw => cg_c_fr d0 hw (fun hw => fr_Node_attributeNamed  d0 hw (fun v32 h33 z34 d1 hw => fr_ite hw (fun hw => fr_Walker_withAttribute_69  d1 hw hK (fun _ _ _ _ _ d9 hw => ih d9 hw)) (fun hw => cg_d_fr hw (fun a35 hw => cg_I_fr d1 hw (fun v36 hw => fr_ite hw (fun hw => fr_Walker_withAttribute_65  d1 hw hK (fun _ _ _ _ _ d9 hw => ih d9 hw)) (fun hw => cg_d_fr hw (fun a37 hw => cg_c_fr d1 hw (fun hw => fr_Attribute_value  d1 hw (fun v38 h39 z40 d2 hw => cg_d_fr hw (fun a41 hw => cg_R_fr d2 hw (fun v42 hw => cg_d_fr hw (fun a43 hw => cg_d_fr hw (fun a44 hw => jd_eq_fr hw (fun v45 hw => fr_ite hw (fun hw => fr_Walker_withAttribute_69  d2 hw hK (fun _ _ _ _ _ d9 hw => ih d9 hw)) (fun hw => fr_Walker_withAttribute_65  d2 hw hK (fun _ _ _ _ _ d9 hw => ih d9 hw))))))))))))))))))))))))))))
theorem fr_Walker_withAttribute {g : hm_T} {dA : Nat → ClassId} {y0 : Nat} {y1 : Option Nat} {K Kq : Int64 → hm_T → hz_T → Prop}  {h0 : hm_T} {z0 : hz_T} (d0 : dj g h0) (hw : w_Walker_withAttribute dA y0 y1 K h0 z0) (hK : ∀ (v0 : Int64) (h : hm_T) (z : hz_T), dj g h → K v0 h z → Kq v0 (hJ g h) z) : w_Walker_withAttribute dA y0 y1 Kq (hJ g h0) z0 := by
  unfold w_Walker_withAttribute at hw ⊢
  exact fr_Walker_withAttribute_5 hK _ d0 hw
theorem fr_Walker_stringValueFits_142 {g : hm_T} {dA : Nat → ClassId} {y0 : Nat} {K Kq : Int32 → hm_T → hz_T → Prop} {k24 k24q : Option Nat → Option Nat → Option Nat → Int32 → Int32 → Int32 → hm_T → hz_T → Prop} {x1 : Option Nat} {x2 : Option Nat} {x3 : Option Nat} {x4 : Int32} {x5 : Int32} {x6 : Int32}  {h : hm_T} {z : hz_T} (d0 : dj g h) (hw : w_Walker_stringValueFits_142 dA y0 K k24 x1 x2 x3 x4 x5 x6 h z) (hK : ∀ (v0 : Int32) (h : hm_T) (z : hz_T), dj g h → K v0 h z → Kq v0 (hJ g h) z) (hk24 : ∀ (v0 : Option Nat) (v1 : Option Nat) (v2 : Option Nat) (v3 : Int32) (v4 : Int32) (v5 : Int32) (h : hm_T) (z : hz_T), dj g h → k24 v0 v1 v2 v3 v4 v5 h z → k24q v0 v1 v2 v3 v4 v5 (hJ g h) z) : w_Walker_stringValueFits_142 dA y0 Kq k24q x1 x2 x3 x4 x5 x6 (hJ g h) z := by
  unfold w_Walker_stringValueFits_142 at hw ⊢
  exact hk24 _ _ _ _ _ _ _ _ d0 hw
theorem fr_Walker_stringValueFits_70 {g : hm_T} {dA : Nat → ClassId} {y0 : Nat} {K Kq : Int32 → hm_T → hz_T → Prop} {k24 k24q : Option Nat → Option Nat → Option Nat → Int32 → Int32 → Int32 → hm_T → hz_T → Prop} (hK : ∀ (v0 : Int32) (h : hm_T) (z : hz_T), dj g h → K v0 h z → Kq v0 (hJ g h) z) (hk24 : ∀ (v0 : Option Nat) (v1 : Option Nat) (v2 : Option Nat) (v3 : Int32) (v4 : Int32) (v5 : Int32) (h : hm_T) (z : hz_T), dj g h → k24 v0 v1 v2 v3 v4 v5 h z → k24q v0 v1 v2 v3 v4 v5 (hJ g h) z) : ∀ (n9 : Nat) {x1 : Option Nat} {x2 : Option Nat} {x3 : Option Nat} {x4 : Int32} {x5 : Int32} {x6 : Int32} {x7 : Option Nat} {x8 : Int32} {x9 : Int32} {h : hm_T} {z : hz_T}, dj g h → w_Walker_stringValueFits_70 dA y0 K k24 n9 x1 x2 x3 x4 x5 x6 x7 x8 x9 h z → w_Walker_stringValueFits_70 dA y0 Kq k24q n9 x1 x2 x3 x4 x5 x6 x7 x8 x9 (hJ g h) z := by
  intro n9
  induction n9 with
  | zero => intro x1 x2 x3 x4 x5 x6 x7 x8 x9 h z d0 hw; unfold w_Walker_stringValueFits_70 at hw; exact hw.elim
  | succ n9 ih =>
    intro x1 x2 x3 x4 x5 x6 x7 x8 x9 h z d0 hw
    unfold w_Walker_stringValueFits_70 at hw ⊢
    exact fr_ite hw (fun hw => fr_Walker_stringValueFits_142  d0 hw hK hk24) (fun hw => cg_d_fr hw (fun a39 hw => cg_R_fr d0 hw (fun v40 hw => cg_d_fr hw (fun a41 hw => jd_len_fr hw (fun v42 hw => fr_ite hw (fun hw => fr_Walker_stringValueFits_142  d0 hw hK hk24) (fun hw => cg_d_fr hw (fun a43 hw => jd_len_fr hw (fun v44 hw => fr_ite hw (fun hw => cg_d_fr hw (fun a51 hw => cg_I_fr d0 hw (fun v52 hw => fr_ite hw (fun hw => hK _ _ _ d0 hw) (fun hw => hK _ _ _ d0 hw)))) (fun hw => cg_d_fr hw (fun a45 hw => cg_R_fr d0 hw (fun v46 hw => cg_d_fr hw (fun a47 hw => jd_at_fr hw (fun v48 hw => cg_d_fr hw (fun a49 hw => jd_at_fr hw (fun v50 hw => fr_ite hw (fun hw => ih d0 hw) (fun hw => hK _ _ _ d0 hw))))))))))))))))
theorem fr_Walker_stringValueFits_65 {g : hm_T} {dA : Nat → ClassId} {y0 : Nat} {K Kq : Int32 → hm_T → hz_T → Prop} {k24 k24q : Option Nat → Option Nat → Option Nat → Int32 → Int32 → Int32 → hm_T → hz_T → Prop} {x1 : Option Nat} {x2 : Option Nat} {x3 : Option Nat} {x4 : Int32} {x5 : Int32} {x6 : Int32} {x7 : Option Nat} {w0 : Int32}  {h : hm_T} {z : hz_T} (d0 : dj g h) (hw : w_Walker_stringValueFits_65 dA y0 K k24 x1 x2 x3 x4 x5 x6 x7 w0 h z) (hK : ∀ (v0 : Int32) (h : hm_T) (z : hz_T), dj g h → K v0 h z → Kq v0 (hJ g h) z) (hk24 : ∀ (v0 : Option Nat) (v1 : Option Nat) (v2 : Option Nat) (v3 : Int32) (v4 : Int32) (v5 : Int32) (h : hm_T) (z : hz_T), dj g h → k24 v0 v1 v2 v3 v4 v5 h z → k24q v0 v1 v2 v3 v4 v5 (hJ g h) z) : w_Walker_stringValueFits_65 dA y0 Kq k24q x1 x2 x3 x4 x5 x6 x7 w0 (hJ g h) z := by
  unfold w_Walker_stringValueFits_65 at hw ⊢
  exact fr_Walker_stringValueFits_70 hK hk24 _ d0 hw
theorem fr_Walker_stringValueFits_60 {g : hm_T} {dA : Nat → ClassId} {y0 : Nat} {K Kq : Int32 → hm_T → hz_T → Prop} {k24 k24q : Option Nat → Option Nat → Option Nat → Int32 → Int32 → Int32 → hm_T → hz_T → Prop} {x1 : Option Nat} {x2 : Option Nat} {x3 : Option Nat} {x4 : Int32} {x5 : Int32} {x6 : Int32} {x7 : Option Nat}  {h : hm_T} {z : hz_T} (d0 : dj g h) (hw : w_Walker_stringValueFits_60 dA y0 K k24 x1 x2 x3 x4 x5 x6 x7 h z) (hK : ∀ (v0 : Int32) (h : hm_T) (z : hz_T), dj g h → K v0 h z → Kq v0 (hJ g h) z) (hk24 : ∀ (v0 : Option Nat) (v1 : Option Nat) (v2 : Option Nat) (v3 : Int32) (v4 : Int32) (v5 : Int32) (h : hm_T) (z : hz_T), dj g h → k24 v0 v1 v2 v3 v4 v5 h z → k24q v0 v1 v2 v3 v4 v5 (hJ g h) z) : w_Walker_stringValueFits_60 dA y0 Kq k24q x1 x2 x3 x4 x5 x6 x7 (hJ g h) z := by
  unfold w_Walker_stringValueFits_60 at hw ⊢
  exact fr_Walker_stringValueFits_65  d0 hw hK hk24
theorem fr_Walker_stringValueFits_24 {g : hm_T} {dA : Nat → ClassId} {y0 : Nat} {K Kq : Int32 → hm_T → hz_T → Prop} (hK : ∀ (v0 : Int32) (h : hm_T) (z : hz_T), dj g h → K v0 h z → Kq v0 (hJ g h) z) : ∀ (n9 : Nat) {x1 : Option Nat} {x2 : Option Nat} {x3 : Option Nat} {x4 : Int32} {x5 : Int32} {x6 : Int32} {h : hm_T} {z : hz_T}, dj g h → w_Walker_stringValueFits_24 dA y0 K n9 x1 x2 x3 x4 x5 x6 h z → w_Walker_stringValueFits_24 dA y0 Kq n9 x1 x2 x3 x4 x5 x6 (hJ g h) z := by
  intro n9
  induction n9 with
  | zero => intro x1 x2 x3 x4 x5 x6 h z d0 hw; unfold w_Walker_stringValueFits_24 at hw; exact hw.elim
  | succ n9 ih =>
    intro x1 x2 x3 x4 x5 x6 h z d0 hw
    unfold w_Walker_stringValueFits_24 at hw ⊢
    exact fr_ite hw (fun hw => cg_d_fr hw (fun a30 hw => jd_len_fr hw (fun v31 hw => fr_ite hw (fun hw => hK _ _ _ d0 hw) (fun hw => hK _ _ _ d0 hw)))) (fun hw => cg_R_fr d0 hw (fun v32 hw => cg_d_fr hw (fun a33 hw => cg_R_fr d0 hw (fun v34 hw => cg_d_fr hw (fun a35 hw => cg_ar_fr d0 hw (fun v36 hw => cg_d_fr hw (fun a37 hw => cg_I_fr d0 hw (fun v38 hw => fr_ite hw (fun hw => fr_Walker_stringValueFits_60  d0 hw hK (fun _ _ _ _ _ _ _ _ d9 hw => ih d9 hw)) (fun hw => cg_d_fr hw (fun a53 hw => cg_I_fr d0 hw (fun v54 hw => fr_ite hw (fun hw => fr_Walker_stringValueFits_60  d0 hw hK (fun _ _ _ _ _ _ _ _ d9 hw => ih d9 hw)) (fun hw => fr_Walker_stringValueFits_65  d0 hw hK (fun _ _ _ _ _ _ _ _ d9 hw => ih d9 hw)))))))))))))
theorem fr_Walker_stringValueFits {g : hm_T} {dA : Nat → ClassId} {y0 : Nat} {y1 : Option Nat} {y2 : Option Nat} {K Kq : Int32 → hm_T → hz_T → Prop}  {h0 : hm_T} {z0 : hz_T} (d0 : dj g h0) (hw : w_Walker_stringValueFits dA y0 y1 y2 K h0 z0) (hK : ∀ (v0 : Int32) (h : hm_T) (z : hz_T), dj g h → K v0 h z → Kq v0 (hJ g h) z) : w_Walker_stringValueFits dA y0 y1 y2 Kq (hJ g h0) z0 := by
  unfold w_Walker_stringValueFits at hw ⊢
  exact cg_d_fr hw (fun a21 hw => cg_R_fr d0 hw (fun v22 hw => cg_R_fr d0 hw (fun v23 hw => cg_d_fr hw (fun a24 hw => cg_c_fr d0 hw (fun hw => fr_Tree_endOf  d0 hw (fun v25 h26 z27 d1 hw => cg_d_fr hw (fun a28 hw => cg_I_fr d1 hw (fun v29 hw => fr_Walker_stringValueFits_24 hK _ d1 hw))))))))
theorem fr_Walker_atPosition_83 {g : hm_T} {dA : Nat → ClassId} {y0 : Nat} {K Kq : Int64 → hm_T → hz_T → Prop} {k6 k6q : Int32 → Int64 → Int32 → Int32 → Int32 → hm_T → hz_T → Prop} {x1 : Int32} {x2 : Int64} {x4 : Int32} {x5 : Int32} {x6 : Int32}  {h : hm_T} {z : hz_T} (d0 : dj g h) (hw : w_Walker_atPosition_83 dA y0 K k6 x1 x2 x4 x5 x6 h z) (hK : ∀ (v0 : Int64) (h : hm_T) (z : hz_T), dj g h → K v0 h z → Kq v0 (hJ g h) z) (hk6 : ∀ (v0 : Int32) (v1 : Int64) (v2 : Int32) (v3 : Int32) (v4 : Int32) (h : hm_T) (z : hz_T), dj g h → k6 v0 v1 v2 v3 v4 h z → k6q v0 v1 v2 v3 v4 (hJ g h) z) : w_Walker_atPosition_83 dA y0 Kq k6q x1 x2 x4 x5 x6 (hJ g h) z := by
  unfold w_Walker_atPosition_83 at hw ⊢
  exact hk6 _ _ _ _ _ _ _ d0 hw
theorem fr_Walker_atPosition_64 {g : hm_T} {dA : Nat → ClassId} {y0 : Nat} {K Kq : Int64 → hm_T → hz_T → Prop} {k6 k6q : Int32 → Int64 → Int32 → Int32 → Int32 → hm_T → hz_T → Prop} {x1 : Int32} {x2 : Int64} {x4 : Int32} {x6 : Int32} {x8 : Int64} {w0 : Int32} {w1 : Int32}  {h : hm_T} {z : hz_T} (d0 : dj g h) (hw : w_Walker_atPosition_64 dA y0 K k6 x1 x2 x4 x6 x8 w0 w1 h z) (hK : ∀ (v0 : Int64) (h : hm_T) (z : hz_T), dj g h → K v0 h z → Kq v0 (hJ g h) z) (hk6 : ∀ (v0 : Int32) (v1 : Int64) (v2 : Int32) (v3 : Int32) (v4 : Int32) (h : hm_T) (z : hz_T), dj g h → k6 v0 v1 v2 v3 v4 h z → k6q v0 v1 v2 v3 v4 (hJ g h) z) : w_Walker_atPosition_64 dA y0 Kq k6q x1 x2 x4 x6 x8 w0 w1 (hJ g h) z := by
  unfold w_Walker_atPosition_64 at hw ⊢
  exact fr_ite hw (fun hw => fr_Walker_atPosition_83  d0 hw hK hk6) (fun hw => fr_ite hw (fun hw => hK _ _ _ d0 hw) (fun hw => fr_Walker_atPosition_83  d0 hw hK hk6))
theorem fr_Walker_atPosition_40 {g : hm_T} {dA : Nat → ClassId} {y0 : Nat} {K Kq : Int64 → hm_T → hz_T → Prop} {k6 k6q : Int32 → Int64 → Int32 → Int32 → Int32 → hm_T → hz_T → Prop} {x1 : Int32} {x2 : Int64} {x4 : Int32} {x5 : Int32} {x6 : Int32} {w0 : Int32}  {h : hm_T} {z : hz_T} (d0 : dj g h) (hw : w_Walker_atPosition_40 dA y0 K k6 x1 x2 x4 x5 x6 w0 h z) (hK : ∀ (v0 : Int64) (h : hm_T) (z : hz_T), dj g h → K v0 h z → Kq v0 (hJ g h) z) (hk6 : ∀ (v0 : Int32) (v1 : Int64) (v2 : Int32) (v3 : Int32) (v4 : Int32) (h : hm_T) (z : hz_T), dj g h → k6 v0 v1 v2 v3 v4 h z → k6q v0 v1 v2 v3 v4 (hJ g h) z) : w_Walker_atPosition_40 dA y0 Kq k6q x1 x2 x4 x5 x6 w0 (hJ g h) z := by
  unfold w_Walker_atPosition_40 at hw ⊢
  exact fr_ite hw (fun hw => fr_Walker_atPosition_64  d0 hw hK hk6) (fun hw => fr_Walker_atPosition_64  d0 hw hK hk6)
theorem fr_Walker_atPosition_6 {g : hm_T} {dA : Nat → ClassId} {y0 : Nat} {K Kq : Int64 → hm_T → hz_T → Prop} (hK : ∀ (v0 : Int64) (h : hm_T) (z : hz_T), dj g h → K v0 h z → Kq v0 (hJ g h) z) : ∀ (n9 : Nat) {x1 : Int32} {x2 : Int64} {x4 : Int32} {x5 : Int32} {x6 : Int32} {h : hm_T} {z : hz_T}, dj g h → w_Walker_atPosition_6 dA y0 K n9 x1 x2 x4 x5 x6 h z → w_Walker_atPosition_6 dA y0 Kq n9 x1 x2 x4 x5 x6 (hJ g h) z := by
  intro n9
  induction n9 with
  | zero => intro x1 x2 x4 x5 x6 h z d0 hw; unfold w_Walker_atPosition_6 at hw; exact hw.elim
  | succ n9 ih =>
    intro x1 x2 x4 x5 x6 h z d0 hw
    unfold w_Walker_atPosition_6 at hw ⊢
    exact cg_R_fr d0 hw (fun v21 hw => cg_d_fr hw (fun a22 hw => cg_I_fr d0 hw (fun v23 hw => fr_ite hw (fun hw => hK _ _ _ d0 hw) (fun hw => fr_ite hw (fun hw => fr_Walker_atPosition_40  d0 hw hK (fun _ _ _ _ _ _ _ d9 hw => ih d9 hw)) (fun hw => cg_R_fr d0 hw (fun v24 hw => cg_d_fr hw (fun a25 hw => cg_I_fr d0 hw (fun v26 hw => fr_Walker_atPosition_40  d0 hw hK (fun _ _ _ _ _ _ _ d9 hw => ih d9 hw)))))))))
theorem fr_Walker_atPosition {g : hm_T} {dA : Nat → ClassId} {y0 : Nat} {y1 : Int32} {y2 : Int64} {y4 : Int32} {K Kq : Int64 → hm_T → hz_T → Prop}  {h0 : hm_T} {z0 : hz_T} (d0 : dj g h0) (hw : w_Walker_atPosition dA y0 y1 y2 y4 K h0 z0) (hK : ∀ (v0 : Int64) (h : hm_T) (z : hz_T), dj g h → K v0 h z → Kq v0 (hJ g h) z) : w_Walker_atPosition dA y0 y1 y2 y4 Kq (hJ g h0) z0 := by
  unfold w_Walker_atPosition at hw ⊢
  exact fr_Walker_atPosition_6 hK _ d0 hw
theorem fr_Walker_ancestors_8 {g : hm_T} {dA : Nat → ClassId} {y0 : Nat} {K Kq : Int64 → hm_T → hz_T → Prop} (hK : ∀ (v0 : Int64) (h : hm_T) (z : hz_T), dj g h → K v0 h z → Kq v0 (hJ g h) z) : ∀ (n9 : Nat) {x2 : Int64} {x4 : Option Nat} {h : hm_T} {z : hz_T}, dj g h → w_Walker_ancestors_8 dA y0 K n9 x2 x4 h z → w_Walker_ancestors_8 dA y0 Kq n9 x2 x4 (hJ g h) z := by
  intro n9
  induction n9 with
  | zero => intro x2 x4 h z d0 hw; unfold w_Walker_ancestors_8 at hw; exact hw.elim
  | succ n9 ih =>
    intro x2 x4 h z d0 hw
    unfold w_Walker_ancestors_8 at hw ⊢
    exact fr_ite hw (fun hw => hK _ _ _ d0 hw) (fun hw => cg_d_fr hw (fun a23 hw => cg_I_fr d0 hw (fun v24 hw => cg_d_fr hw (fun a25 hw => cg_R_fr d0 hw (fun v26 hw => ih d0 hw)))))
theorem fr_Walker_ancestors {g : hm_T} {dA : Nat → ClassId} {y0 : Nat} {y1 : Option Nat} {K Kq : Int64 → hm_T → hz_T → Prop}  {h0 : hm_T} {z0 : hz_T} (d0 : dj g h0) (hw : w_Walker_ancestors dA y0 y1 K h0 z0) (hK : ∀ (v0 : Int64) (h : hm_T) (z : hz_T), dj g h → K v0 h z → Kq v0 (hJ g h) z) : w_Walker_ancestors dA y0 y1 Kq (hJ g h0) z0 := by
  unfold w_Walker_ancestors at hw ⊢
  exact cg_d_fr hw (fun a21 hw => cg_R_fr d0 hw (fun v22 hw => fr_Walker_ancestors_8 hK _ d0 hw))
theorem fr_Walker_children_55 {g : hm_T} {dA : Nat → ClassId} {y0 : Nat} {K Kq : Int64 → hm_T → hz_T → Prop} {x2 : Int64}  {h : hm_T} {z : hz_T} (d0 : dj g h) (hw : w_Walker_children_55 dA y0 K x2 h z) (hK : ∀ (v0 : Int64) (h : hm_T) (z : hz_T), dj g h → K v0 h z → Kq v0 (hJ g h) z) : w_Walker_children_55 dA y0 Kq x2 (hJ g h) z := by
  unfold w_Walker_children_55 at hw ⊢
  exact hK _ _ _ d0 hw
theorem fr_Walker_children_47 {g : hm_T} {dA : Nat → ClassId} {y0 : Nat} {K Kq : Int64 → hm_T → hz_T → Prop} {k5 k5q : Option Nat → Int64 → Int32 → hm_T → hz_T → Prop} {x1 : Option Nat} {x4 : Int32} {w0 : Int64} {w1 : Int64}  {h : hm_T} {z : hz_T} (d0 : dj g h) (hw : w_Walker_children_47 dA y0 K k5 x1 x4 w0 w1 h z) (hK : ∀ (v0 : Int64) (h : hm_T) (z : hz_T), dj g h → K v0 h z → Kq v0 (hJ g h) z) (hk5 : ∀ (v0 : Option Nat) (v1 : Int64) (v2 : Int32) (h : hm_T) (z : hz_T), dj g h → k5 v0 v1 v2 h z → k5q v0 v1 v2 (hJ g h) z) : w_Walker_children_47 dA y0 Kq k5q x1 x4 w0 w1 (hJ g h) z := by
  unfold w_Walker_children_47 at hw ⊢
  exact hk5 _ _ _ _ _ d0 hw
theorem fr_Walker_children_5 {g : hm_T} {dA : Nat → ClassId} {y0 : Nat} {K Kq : Int64 → hm_T → hz_T → Prop} (hK : ∀ (v0 : Int64) (h : hm_T) (z : hz_T), dj g h → K v0 h z → Kq v0 (hJ g h) z) : ∀ (n9 : Nat) {x1 : Option Nat} {x2 : Int64} {x4 : Int32} {h : hm_T} {z : hz_T}, dj g h → w_Walker_children_5 dA y0 K n9 x1 x2 x4 h z → w_Walker_children_5 dA y0 Kq n9 x1 x2 x4 (hJ g h) z := by
  intro n9
  induction n9 with
  | zero => intro x1 x2 x4 h z d0 hw; unfold w_Walker_children_5 at hw; exact hw.elim
  | succ n9 ih =>
    intro x1 x2 x4 h z d0 hw
    unfold w_Walker_children_5 at hw ⊢
    exact fr_ite hw (fun hw => fr_Walker_children_55  d0 hw hK) (fun hw => cg_R_fr d0 hw (fun v21 hw => cg_d_fr hw (fun a22 hw => cg_I_fr d0 hw (fun v23 hw => fr_ite hw (fun hw => fr_Walker_children_55  d0 hw hK) (fun hw => cg_R_fr d0 hw (fun v24 hw => cg_d_fr hw (fun a25 hw => cg_R_fr d0 hw (fun v26 hw => cg_d_fr hw (fun a27 hw => cg_ar_fr d0 hw (fun v28 hw => cg_d_fr hw (fun a29 hw => cg_R_fr d0 hw (fun v30 hw => fr_ite hw (fun hw => fr_Walker_children_47  d0 hw hK (fun _ _ _ _ _ d9 hw => ih d9 hw)) (fun hw => fr_Walker_children_47  d0 hw hK (fun _ _ _ _ _ d9 hw => ih d9 hw))))))))))))))
theorem fr_Walker_children {g : hm_T} {dA : Nat → ClassId} {y0 : Nat} {y1 : Option Nat} {K Kq : Int64 → hm_T → hz_T → Prop}  {h0 : hm_T} {z0 : hz_T} (d0 : dj g h0) (hw : w_Walker_children dA y0 y1 K h0 z0) (hK : ∀ (v0 : Int64) (h : hm_T) (z : hz_T), dj g h → K v0 h z → Kq v0 (hJ g h) z) : w_Walker_children dA y0 y1 Kq (hJ g h0) z0 := by
  unfold w_Walker_children at hw ⊢
  exact fr_Walker_children_5 hK _ d0 hw
theorem fr_Walker_range {g : hm_T} {dA : Nat → ClassId} {y0 : Int32} {y1 : Int32} {K Kq : Int64 → hm_T → hz_T → Prop}  {h0 : hm_T} {z0 : hz_T} (d0 : dj g h0) (hw : w_Walker_range dA y0 y1 K h0 z0) (hK : ∀ (v0 : Int64) (h : hm_T) (z : hz_T), dj g h → K v0 h z → Kq v0 (hJ g h) z) : w_Walker_range dA y0 y1 Kq (hJ g h0) z0 := by
  unfold w_Walker_range at hw ⊢
  exact hK _ _ _ d0 hw
theorem fr_Store_kind {g : hm_T} {dA : Nat → ClassId} {y0 : Nat} {y1 : Int32} {K Kq : Int32 → hm_T → hz_T → Prop}  {h0 : hm_T} {z0 : hz_T} (d0 : dj g h0) (hw : w_Store_kind dA y0 y1 K h0 z0) (hK : ∀ (v0 : Int32) (h : hm_T) (z : hz_T), dj g h → K v0 h z → Kq v0 (hJ g h) z) : w_Store_kind dA y0 y1 Kq (hJ g h0) z0 := by
  unfold w_Store_kind at hw ⊢
  exact cg_R_fr d0 hw (fun v21 hw => cg_d_fr hw (fun a22 hw => cg_c_fr d0 hw (fun hw => fr_Tree_find  d0 hw (fun v23 h24 z25 d1 hw => fr_ite hw (fun hw => hK _ _ _ d1 hw) (fun hw => cg_d_fr hw (fun a26 hw => cg_I_fr d1 hw (fun v27 hw => hK _ _ _ d1 hw)))))))
theorem fr_Store_node {g : hm_T} {dA : Nat → ClassId} {y0 : Nat} {y1 : Int32} {y2 : Int32} {K Kq : Int32 → hm_T → hz_T → Prop}  {h0 : hm_T} {z0 : hz_T} (d0 : dj g h0) (hw : w_Store_node dA y0 y1 y2 K h0 z0) (hK : ∀ (v0 : Int32) (h : hm_T) (z : hz_T), dj g h → K v0 h z → Kq v0 (hJ g h) z) : w_Store_node dA y0 y1 y2 Kq (hJ g h0) z0 := by
  unfold w_Store_node at hw ⊢
  exact cg_R_fr d0 hw (fun v21 hw => cg_d_fr hw (fun a22 hw => cg_c_fr d0 hw (fun hw => fr_Tree_find  d0 hw (fun v23 h24 z25 d1 hw => fr_ite hw (fun hw => hK _ _ _ d1 hw) (fun hw => fr_ite hw (fun hw => cg_d_fr hw (fun a26 hw => cg_R_fr d1 hw (fun v27 hw => fr_ite hw (fun hw => hK _ _ _ d1 hw) (fun hw => cg_d_fr hw (fun a28 hw => cg_R_fr d1 hw (fun v29 hw => cg_d_fr hw (fun a30 hw => cg_I_fr d1 hw (fun v31 hw => hK _ _ _ d1 hw)))))))) (fun hw => fr_ite hw (fun hw => cg_R_fr d1 hw (fun v32 hw => cg_R_fr d1 hw (fun v33 hw => cg_d_fr hw (fun a34 hw => cg_I_fr d1 hw (fun v35 hw => cg_d_fr hw (fun a36 hw => cg_c_fr d1 hw (fun hw => fr_Tree_childrenWithin  d1 hw (fun v37 h38 z39 d2 hw => hK _ _ _ d2 hw)))))))) (fun hw => fr_ite hw (fun hw => cg_d_fr hw (fun a40 hw => cg_R_fr d1 hw (fun v41 hw => fr_ite hw (fun hw => hK _ _ _ d1 hw) (fun hw => cg_R_fr d1 hw (fun v42 hw => cg_d_fr hw (fun a43 hw => cg_R_fr d1 hw (fun v44 hw => cg_d_fr hw (fun a45 hw => cg_I_fr d1 hw (fun v46 hw => cg_d_fr hw (fun a47 hw => cg_c_fr d1 hw (fun hw => fr_Tree_childrenWithin  d1 hw (fun v48 h49 z50 d3 hw => hK _ _ _ d3 hw)))))))))))) (fun hw => fr_ite hw (fun hw => cg_d_fr hw (fun a51 hw => cg_R_fr d1 hw (fun v52 hw => cg_d_fr hw (fun a53 hw => jd_sz_fr d1 hw (fun v54 hw => hK _ _ _ d1 hw))))) (fun hw => fr_ite hw (fun hw => cg_d_fr hw (fun a55 hw => cg_R_fr d1 hw (fun v56 hw => cg_d_fr hw (fun a57 hw => jd_len_fr hw (fun v58 hw => hK _ _ _ d1 hw))))) (fun hw => fr_ite hw (fun hw => cg_d_fr hw (fun a59 hw => cg_R_fr d1 hw (fun v60 hw => cg_d_fr hw (fun a61 hw => cg_al_fr d1 hw (fun v62 hw => hK _ _ _ d1 hw))))) (fun hw => fr_ite hw (fun hw => cg_d_fr hw (fun a63 hw => cg_I_fr d1 hw (fun v64 hw => hK _ _ _ d1 hw))) (fun hw => hK _ _ _ d1 hw))))))))))))
theorem fr_Store_letter_28 {g : hm_T} {dA : Nat → ClassId} {y0 : Nat} {K Kq : Int32 → hm_T → hz_T → Prop}  {h : hm_T} {z : hz_T} (d0 : dj g h) (hw : w_Store_letter_28 dA y0 K h z) (hK : ∀ (v0 : Int32) (h : hm_T) (z : hz_T), dj g h → K v0 h z → Kq v0 (hJ g h) z) : w_Store_letter_28 dA y0 Kq (hJ g h) z := by
  unfold w_Store_letter_28 at hw ⊢
  exact hK _ _ _ d0 hw
theorem fr_Store_letter {g : hm_T} {dA : Nat → ClassId} {y0 : Nat} {y1 : Int32} {y2 : Int32} {K Kq : Int32 → hm_T → hz_T → Prop}  {h0 : hm_T} {z0 : hz_T} (d0 : dj g h0) (hw : w_Store_letter dA y0 y1 y2 K h0 z0) (hK : ∀ (v0 : Int32) (h : hm_T) (z : hz_T), dj g h → K v0 h z → Kq v0 (hJ g h) z) : w_Store_letter dA y0 y1 y2 Kq (hJ g h0) z0 := by
  unfold w_Store_letter at hw ⊢
  exact cg_R_fr d0 hw (fun v21 hw => cg_d_fr hw (fun a22 hw => cg_c_fr d0 hw (fun hw => fr_Tree_find  d0 hw (fun v23 h24 z25 d1 hw => fr_ite hw (fun hw => fr_Store_letter_28  d1 hw hK) (fun hw => fr_ite hw (fun hw => fr_Store_letter_28  d1 hw hK) (fun hw => cg_d_fr hw (fun a26 hw => cg_R_fr d1 hw (fun v27 hw => cg_d_fr hw (fun a28 hw => jd_len_fr hw (fun v29 hw => fr_ite hw (fun hw => cg_d_fr hw (fun a30 hw => cg_R_fr d1 hw (fun v31 hw => cg_d_fr hw (fun a32 hw => jd_at_fr hw (fun v33 hw => hK _ _ _ d1 hw))))) (fun hw => fr_Store_letter_28  d1 hw hK)))))))))))
theorem fr_Store_label_26 {g : hm_T} {dA : Nat → ClassId} {y0 : Nat} {K Kq : Int32 → hm_T → hz_T → Prop}  {h : hm_T} {z : hz_T} (d0 : dj g h) (hw : w_Store_label_26 dA y0 K h z) (hK : ∀ (v0 : Int32) (h : hm_T) (z : hz_T), dj g h → K v0 h z → Kq v0 (hJ g h) z) : w_Store_label_26 dA y0 Kq (hJ g h) z := by
  unfold w_Store_label_26 at hw ⊢
  exact hK _ _ _ d0 hw
theorem fr_Store_label {g : hm_T} {dA : Nat → ClassId} {y0 : Nat} {y1 : Int32} {y2 : Int32} {K Kq : Int32 → hm_T → hz_T → Prop}  {h0 : hm_T} {z0 : hz_T} (d0 : dj g h0) (hw : w_Store_label dA y0 y1 y2 K h0 z0) (hK : ∀ (v0 : Int32) (h : hm_T) (z : hz_T), dj g h → K v0 h z → Kq v0 (hJ g h) z) : w_Store_label dA y0 y1 y2 Kq (hJ g h0) z0 := by
  unfold w_Store_label at hw ⊢
  exact cg_R_fr d0 hw (fun v21 hw => cg_d_fr hw (fun a22 hw => cg_c_fr d0 hw (fun hw => fr_Tree_find  d0 hw (fun v23 h24 z25 d1 hw => fr_ite hw (fun hw => fr_Store_label_26  d1 hw hK) (fun hw => fr_ite hw (fun hw => fr_Store_label_26  d1 hw hK) (fun hw => cg_d_fr hw (fun a26 hw => cg_R_fr d1 hw (fun v27 hw => cg_d_fr hw (fun a28 hw => cg_al_fr d1 hw (fun v29 hw => fr_ite hw (fun hw => cg_d_fr hw (fun a30 hw => cg_R_fr d1 hw (fun v31 hw => cg_d_fr hw (fun a32 hw => cg_ai_fr d1 hw (fun v33 hw => hK _ _ _ d1 hw))))) (fun hw => fr_Store_label_26  d1 hw hK)))))))))))
theorem fr_Store_isName_49 {g : hm_T} {dA : Nat → ClassId} {K Kq : Int32 → hm_T → hz_T → Prop}  {h : hm_T} {z : hz_T} (d0 : dj g h) (hw : w_Store_isName_49 dA K h z) (hK : ∀ (v0 : Int32) (h : hm_T) (z : hz_T), dj g h → K v0 h z → Kq v0 (hJ g h) z) : w_Store_isName_49 dA Kq (hJ g h) z := by
  unfold w_Store_isName_49 at hw ⊢
  exact hK _ _ _ d0 hw
theorem fr_Store_isName_2 {g : hm_T} {dA : Nat → ClassId} {K Kq : Int32 → hm_T → hz_T → Prop} (hK : ∀ (v0 : Int32) (h : hm_T) (z : hz_T), dj g h → K v0 h z → Kq v0 (hJ g h) z) : ∀ (n9 : Nat) {x0 : Option Nat} {x1 : Int32} {h : hm_T} {z : hz_T}, dj g h → w_Store_isName_2 dA K n9 x0 x1 h z → w_Store_isName_2 dA Kq n9 x0 x1 (hJ g h) z := by
  intro n9
  induction n9 with
  | zero => intro x0 x1 h z d0 hw; unfold w_Store_isName_2 at hw; exact hw.elim
  | succ n9 ih =>
    intro x0 x1 h z d0 hw
    unfold w_Store_isName_2 at hw ⊢
    exact cg_d_fr hw (fun a21 hw => jd_len_fr hw (fun v22 hw => fr_ite hw (fun hw => cg_d_fr hw (fun a23 hw => jd_emp_fr hw (fun v24 hw => fr_ite hw (fun hw => cg_d_fr hw (fun a25 hw => jd_len_fr hw (fun v26 hw => fr_ite hw (fun hw => fr_Store_isName_49  d0 hw hK) (fun hw => hK _ _ _ d0 hw)))) (fun hw => fr_Store_isName_49  d0 hw hK)))) (fun hw => cg_d_fr hw (fun a27 hw => jd_at_fr hw (fun v28 hw => fr_Store_isSmallLetter  d0 hw (fun v29 h30 z31 d1 hw => fr_ite hw (fun hw => hK _ _ _ d1 hw) (fun hw => ih d1 hw)))))))
theorem fr_Store_isName {g : hm_T} {dA : Nat → ClassId} {y0 : Option Nat} {K Kq : Int32 → hm_T → hz_T → Prop}  {h0 : hm_T} {z0 : hz_T} (d0 : dj g h0) (hw : w_Store_isName dA y0 K h0 z0) (hK : ∀ (v0 : Int32) (h : hm_T) (z : hz_T), dj g h → K v0 h z → Kq v0 (hJ g h) z) : w_Store_isName dA y0 Kq (hJ g h0) z0 := by
  unfold w_Store_isName at hw ⊢
  exact fr_Store_isName_2 hK _ d0 hw
theorem fr_MarkupReader_readEndTag_12 {g : hm_T} {dA : Nat → ClassId} {y0 : Nat} {K Kq : Int32 → hm_T → hz_T → Prop} (hK : ∀ (v0 : Int32) (h : hm_T) (z : hz_T), dj g h → K v0 h z → Kq v0 (hJ g h) z) : ∀ (n9 : Nat) {x1 : Option Nat} {x2 : Int32} {h : hm_T} {z : hz_T}, dj g h → w_MarkupReader_readEndTag_12 dA y0 K n9 x1 x2 h z → w_MarkupReader_readEndTag_12 dA y0 Kq n9 x1 x2 (hJ g h) z := by
  intro n9
  induction n9 with
  | zero => intro x1 x2 h z d0 hw; unfold w_MarkupReader_readEndTag_12 at hw; exact hw.elim
  | succ n9 ih =>
    intro x1 x2 h z d0 hw
    unfold w_MarkupReader_readEndTag_12 at hw ⊢
    exact cg_d_fr hw (fun a23 hw => cg_R_fr d0 hw (fun v24 hw => cg_d_fr hw (fun a25 hw => jd_len_fr hw (fun v26 hw => fr_ite hw (fun hw => cg_c_fr d0 hw (fun hw => fr_TextReader_take6  d0 hw (fun v27 h28 z29 d1 hw => cg_z_fr hw (fun hw => hK _ _ _ d1 hw)))) (fun hw => cg_d_fr hw (fun a30 hw => cg_R_fr d0 hw (fun v31 hw => cg_d_fr hw (fun a32 hw => jd_at_fr hw (fun v33 hw => cg_c_fr d0 hw (fun hw => fr_TextReader_take6  d0 hw (fun v34 h35 z36 d2 hw => fr_ite hw (fun hw => hK _ _ _ d2 hw) (fun hw => ih d2 hw))))))))))))
theorem fr_MarkupReader_readEndTag {g : hm_T} {dA : Nat → ClassId} {y0 : Nat} {y1 : Option Nat} {K Kq : Int32 → hm_T → hz_T → Prop}  {h0 : hm_T} {z0 : hz_T} (d0 : dj g h0) (hw : w_MarkupReader_readEndTag dA y0 y1 K h0 z0) (hK : ∀ (v0 : Int32) (h : hm_T) (z : hz_T), dj g h → K v0 h z → Kq v0 (hJ g h) z) : w_MarkupReader_readEndTag dA y0 y1 Kq (hJ g h0) z0 := by
  unfold w_MarkupReader_readEndTag at hw ⊢
  exact cg_I_fr d0 hw (fun v21 hw => cg_p_fr d0 hw (fun h22 d1 hw => fr_MarkupReader_readEndTag_12 hK _ d1 hw))
theorem fr_PathReader_readPosition_56 {g : hm_T} {dA : Nat → ClassId} {y0 : Nat} {K Kq : Int32 → hm_T → hz_T → Prop} {x1 : Int32}  {h : hm_T} {z : hz_T} (d0 : dj g h) (hw : w_PathReader_readPosition_56 dA y0 K x1 h z) (hK : ∀ (v0 : Int32) (h : hm_T) (z : hz_T), dj g h → K v0 h z → Kq v0 (hJ g h) z) : w_PathReader_readPosition_56 dA y0 Kq x1 (hJ g h) z := by
  unfold w_PathReader_readPosition_56 at hw ⊢
  exact hK _ _ _ d0 hw
theorem fr_PathReader_readPosition_4 {g : hm_T} {dA : Nat → ClassId} {y0 : Nat} {K Kq : Int32 → hm_T → hz_T → Prop} (hK : ∀ (v0 : Int32) (h : hm_T) (z : hz_T), dj g h → K v0 h z → Kq v0 (hJ g h) z) : ∀ (n9 : Nat) {x1 : Int32} {x2 : Int32} {h : hm_T} {z : hz_T}, dj g h → w_PathReader_readPosition_4 dA y0 K n9 x1 x2 h z → w_PathReader_readPosition_4 dA y0 Kq n9 x1 x2 (hJ g h) z := by
  intro n9
  induction n9 with
  | zero => intro x1 x2 h z d0 hw; unfold w_PathReader_readPosition_4 at hw; exact hw.elim
  | succ n9 ih =>
    intro x1 x2 h z d0 hw
    unfold w_PathReader_readPosition_4 at hw ⊢
    exact fr_ite hw (fun hw => fr_PathReader_readPosition_56  d0 hw hK) (fun hw => cg_I_fr d0 hw (fun v21 hw => cg_c_fr d0 hw (fun hw => fr_TextReader_seen10  d0 hw (fun v22 h23 z24 d1 hw => fr_PathReader_isDigit  d1 hw (fun v25 h26 z27 d2 hw => fr_ite hw (fun hw => fr_PathReader_readPosition_56  d2 hw hK) (fun hw => cg_I_fr d2 hw (fun v28 hw => cg_c_fr d2 hw (fun hw => fr_TextReader_seen10  d2 hw (fun v29 h30 z31 d3 hw => cg_I_fr d3 hw (fun v32 hw => cg_p_fr d3 hw (fun h33 d4 hw => ih d4 hw)))))))))))
theorem fr_PathReader_readPosition {g : hm_T} {dA : Nat → ClassId} {y0 : Nat} {K Kq : Int32 → hm_T → hz_T → Prop}  {h0 : hm_T} {z0 : hz_T} (d0 : dj g h0) (hw : w_PathReader_readPosition dA y0 K h0 z0) (hK : ∀ (v0 : Int32) (h : hm_T) (z : hz_T), dj g h → K v0 h z → Kq v0 (hJ g h) z) : w_PathReader_readPosition dA y0 Kq (hJ g h0) z0 := by
  unfold w_PathReader_readPosition at hw ⊢
  exact fr_PathReader_readPosition_4 hK _ d0 hw
theorem fr_Scribe_putAll_2 {g : hm_T} {dA : Nat → ClassId} {y0 : Nat} {K Kq : hm_T → hz_T → Prop} (hK : ∀ (h : hm_T) (z : hz_T), dj g h → K  h z → Kq  (hJ g h) z) : ∀ (n9 : Nat) {x1 : Option Nat} {x2 : Int32} {h : hm_T} {z : hz_T}, dj g h → w_Scribe_putAll_2 dA y0 K n9 x1 x2 h z → w_Scribe_putAll_2 dA y0 Kq n9 x1 x2 (hJ g h) z := by
  intro n9
  induction n9 with
  | zero => intro x1 x2 h z d0 hw; unfold w_Scribe_putAll_2 at hw; exact hw.elim
  | succ n9 ih =>
    intro x1 x2 h z d0 hw
    unfold w_Scribe_putAll_2 at hw ⊢
    exact cg_d_fr hw (fun a21 hw => jd_len_fr hw (fun v22 hw => fr_ite hw (fun hw => hK _ _ d0 hw) (fun hw => cg_d_fr hw (fun a23 hw => jd_at_fr hw (fun v24 hw => cg_c_fr d0 hw (fun hw => fr_Scribe_put  d0 hw (fun h26 z27 d1 hw => ih d1 hw)))))))
theorem fr_Scribe_putAll {g : hm_T} {dA : Nat → ClassId} {y0 : Nat} {y1 : Option Nat} {K Kq : hm_T → hz_T → Prop}  {h0 : hm_T} {z0 : hz_T} (d0 : dj g h0) (hw : w_Scribe_putAll dA y0 y1 K h0 z0) (hK : ∀ (h : hm_T) (z : hz_T), dj g h → K  h z → Kq  (hJ g h) z) : w_Scribe_putAll dA y0 y1 Kq (hJ g h0) z0 := by
  unfold w_Scribe_putAll at hw ⊢
  exact fr_Scribe_putAll_2 hK _ d0 hw
theorem fr_Walker_goals_65 {g : hm_T} {dA : Nat → ClassId} {y0 : Nat} {K Kq : Int64 → hm_T → hz_T → Prop} {k26 k26q : Option Nat → Int64 → Int32 → hm_T → hz_T → Prop} {x1 : Option Nat} {x4 : Int32} {w0 : Int64} {w1 : Int64}  {h : hm_T} {z : hz_T} (d0 : dj g h) (hw : w_Walker_goals_65 dA y0 K k26 x1 x4 w0 w1 h z) (hK : ∀ (v0 : Int64) (h : hm_T) (z : hz_T), dj g h → K v0 h z → Kq v0 (hJ g h) z) (hk26 : ∀ (v0 : Option Nat) (v1 : Int64) (v2 : Int32) (h : hm_T) (z : hz_T), dj g h → k26 v0 v1 v2 h z → k26q v0 v1 v2 (hJ g h) z) : w_Walker_goals_65 dA y0 Kq k26q x1 x4 w0 w1 (hJ g h) z := by
  unfold w_Walker_goals_65 at hw ⊢
  exact hk26 _ _ _ _ _ d0 hw
theorem fr_Walker_goals_26 {g : hm_T} {dA : Nat → ClassId} {y0 : Nat} {K Kq : Int64 → hm_T → hz_T → Prop} (hK : ∀ (v0 : Int64) (h : hm_T) (z : hz_T), dj g h → K v0 h z → Kq v0 (hJ g h) z) : ∀ (n9 : Nat) {x1 : Option Nat} {x2 : Int64} {x4 : Int32} {h : hm_T} {z : hz_T}, dj g h → w_Walker_goals_26 dA y0 K n9 x1 x2 x4 h z → w_Walker_goals_26 dA y0 Kq n9 x1 x2 x4 (hJ g h) z := by
  intro n9
  induction n9 with
  | zero => intro x1 x2 x4 h z d0 hw; unfold w_Walker_goals_26 at hw; exact hw.elim
  | succ n9 ih =>
    intro x1 x2 x4 h z d0 hw
    unfold w_Walker_goals_26 at hw ⊢
    exact cg_R_fr d0 hw (fun v23 hw => cg_d_fr hw (fun a24 hw => cg_I_fr d0 hw (fun v25 hw => fr_ite hw (fun hw => hK _ _ _ d0 hw) (fun hw => cg_R_fr d0 hw (fun v26 hw => cg_d_fr hw (fun a27 hw => cg_R_fr d0 hw (fun v28 hw => cg_d_fr hw (fun a29 hw => cg_ar_fr d0 hw (fun v30 hw => cg_c_fr d0 hw (fun hw => fr_Walker_stringValueFits  d0 hw (fun v31 h32 z33 d1 hw => fr_ite hw (fun hw => fr_Walker_goals_65  d1 hw hK (fun _ _ _ _ _ d9 hw => ih d9 hw)) (fun hw => fr_Walker_goals_65  d1 hw hK (fun _ _ _ _ _ d9 hw => ih d9 hw)))))))))))))
theorem fr_Walker_goals {g : hm_T} {dA : Nat → ClassId} {y0 : Nat} {y1 : Option Nat} {K Kq : Int64 → hm_T → hz_T → Prop}  {h0 : hm_T} {z0 : hz_T} (d0 : dj g h0) (hw : w_Walker_goals dA y0 y1 K h0 z0) (hK : ∀ (v0 : Int64) (h : hm_T) (z : hz_T), dj g h → K v0 h z → Kq v0 (hJ g h) z) : w_Walker_goals dA y0 y1 Kq (hJ g h0) z0 := by
  unfold w_Walker_goals at hw ⊢
  exact cg_d_fr hw (fun a21 hw => cg_I_fr d0 hw (fun v22 hw => fr_ite hw (fun hw => cg_R_fr d0 hw (fun v34 hw => cg_d_fr hw (fun a35 hw => cg_I_fr d0 hw (fun v36 hw => fr_Walker_range  d0 hw (fun v37 h38 z39 d1 hw => hK _ _ _ d1 hw))))) (fun hw => fr_Walker_goals_26 hK _ d0 hw)))
theorem fr_Walker_documentAxis_30 {g : hm_T} {dA : Nat → ClassId} {y0 : Nat} {K Kq : Int64 → hm_T → hz_T → Prop}  {h : hm_T} {z : hz_T} (d0 : dj g h) (hw : w_Walker_documentAxis_30 dA y0 K h z) (hK : ∀ (v0 : Int64) (h : hm_T) (z : hz_T), dj g h → K v0 h z → Kq v0 (hJ g h) z) : w_Walker_documentAxis_30 dA y0 Kq (hJ g h) z := by
  unfold w_Walker_documentAxis_30 at hw ⊢
  exact cg_R_fr d0 hw (fun v21 hw => cg_d_fr hw (fun a22 hw => cg_I_fr d0 hw (fun v23 hw => fr_Walker_range  d0 hw (fun v24 h25 z26 d1 hw => hK _ _ _ d1 hw))))
theorem fr_Walker_documentAxis {g : hm_T} {dA : Nat → ClassId} {y0 : Nat} {y1 : Int32} {K Kq : Int64 → hm_T → hz_T → Prop}  {h0 : hm_T} {z0 : hz_T} (d0 : dj g h0) (hw : w_Walker_documentAxis dA y0 y1 K h0 z0) (hK : ∀ (v0 : Int64) (h : hm_T) (z : hz_T), dj g h → K v0 h z → Kq v0 (hJ g h) z) : w_Walker_documentAxis dA y0 y1 Kq (hJ g h0) z0 := by
  unfold w_Walker_documentAxis at hw ⊢
  exact fr_ite hw (fun hw => hK _ _ _ d0 hw) (fun hw => fr_ite hw (fun hw => fr_Walker_documentAxis_30  d0 hw hK) (fun hw => fr_ite hw (fun hw => fr_Walker_documentAxis_30  d0 hw hK) (fun hw => hK _ _ _ d0 hw)))
theorem fr_Walker_axis_255 {g : hm_T} {dA : Nat → ClassId} {y0 : Nat} {K Kq : Int64 → hm_T → hz_T → Prop} {x2 : Option Nat}  {h : hm_T} {z : hz_T} (d0 : dj g h) (hw : w_Walker_axis_255 dA y0 K x2 h z) (hK : ∀ (v0 : Int64) (h : hm_T) (z : hz_T), dj g h → K v0 h z → Kq v0 (hJ g h) z) : w_Walker_axis_255 dA y0 Kq x2 (hJ g h) z := by
  unfold w_Walker_axis_255 at hw ⊢
  exact cg_c_fr d0 hw (fun hw => fr_Walker_children  d0 hw (fun v99 h100 z101 d1 hw => hK _ _ _ d1 hw))
-- frames of the predicates, 2
theorem fr_Walker_axis {g : hm_T} {dA : Nat → ClassId} {y0 : Nat} {y1 : Int32} {y2 : Option Nat} {K Kq : Int64 → hm_T → hz_T → Prop}  {h0 : hm_T} {z0 : hz_T} (d0 : dj g h0) (hw : w_Walker_axis dA y0 y1 y2 K h0 z0) (hK : ∀ (v0 : Int64) (h : hm_T) (z : hz_T), dj g h → K v0 h z → Kq v0 (hJ g h) z) : w_Walker_axis dA y0 y1 y2 Kq (hJ g h0) z0 := by
  unfold w_Walker_axis at hw ⊢
  exact fr_ite hw (fun hw => cg_c_fr d0 hw (fun hw => fr_Walker_ancestors  d0 hw (fun v21 h22 z23 d1 hw => hK _ _ _ d1 hw))) (fun hw => fr_ite hw (fun hw => cg_c_fr d0 hw (fun hw => fr_Walker_ancestors  d0 hw (fun v24 h25 z26 d2 hw => cg_d_fr hw (fun a27 hw => cg_I_fr d2 hw (fun v28 hw => hK _ _ _ d2 hw))))) (fun hw => fr_ite hw (fun hw => cg_d_fr hw (fun a29 hw => cg_I_fr d0 hw (fun v30 hw => cg_R_fr d0 hw (fun v31 hw => cg_d_fr hw (fun a32 hw => cg_c_fr d0 hw (fun hw => fr_Tree_endOf  d0 hw (fun v33 h34 z35 d3 hw => fr_Walker_range  d3 hw (fun v36 h37 z38 d4 hw => hK _ _ _ d4 hw)))))))) (fun hw => fr_ite hw (fun hw => cg_d_fr hw (fun a39 hw => cg_I_fr d0 hw (fun v40 hw => cg_R_fr d0 hw (fun v41 hw => cg_d_fr hw (fun a42 hw => cg_c_fr d0 hw (fun hw => fr_Tree_endOf  d0 hw (fun v43 h44 z45 d5 hw => fr_Walker_range  d5 hw (fun v46 h47 z48 d6 hw => hK _ _ _ d6 hw)))))))) (fun hw => fr_ite hw (fun hw => cg_R_fr d0 hw (fun v49 hw => cg_d_fr hw (fun a50 hw => cg_c_fr d0 hw (fun hw => fr_Tree_endOf  d0 hw (fun v51 h52 z53 d7 hw => cg_R_fr d7 hw (fun v54 hw => cg_d_fr hw (fun a55 hw => cg_I_fr d7 hw (fun v56 hw => fr_Walker_range  d7 hw (fun v57 h58 z59 d8 hw => hK _ _ _ d8 hw))))))))) (fun hw => fr_ite hw (fun hw => cg_d_fr hw (fun a60 hw => cg_R_fr d0 hw (fun v61 hw => cg_c_fr d0 hw (fun hw => fr_Walker_children  d0 hw (fun v62 h63 z64 d9 hw => cg_d_fr hw (fun a65 hw => cg_I_fr d9 hw (fun v66 hw => fr_Walker_range  d9 hw (fun v67 h68 z69 d10 hw => hK _ _ _ d10 hw)))))))) (fun hw => fr_ite hw (fun hw => cg_d_fr hw (fun a70 hw => cg_R_fr d0 hw (fun v71 hw => cg_c_fr d0 hw (fun hw => fr_Walker_children  d0 hw (fun v72 h73 z74 d11 hw => cg_d_fr hw (fun a75 hw => cg_I_fr d11 hw (fun v76 hw => cg_R_fr d11 hw (fun v77 hw => cg_d_fr hw (fun a78 hw => cg_I_fr d11 hw (fun v79 hw => fr_Walker_range  d11 hw (fun v80 h81 z82 d12 hw => hK _ _ _ d12 hw))))))))))) (fun hw => fr_ite hw (fun hw => cg_d_fr hw (fun a83 hw => cg_R_fr d0 hw (fun v84 hw => fr_ite hw (fun hw => hK _ _ _ d0 hw) (fun hw => cg_d_fr hw (fun a85 hw => cg_R_fr d0 hw (fun v86 hw => cg_d_fr hw (fun a87 hw => cg_I_fr d0 hw (fun v88 hw => hK _ _ _ d0 hw)))))))) (fun hw => fr_ite hw (fun hw => cg_d_fr hw (fun a89 hw => cg_I_fr d0 hw (fun v90 hw => fr_Walker_range  d0 hw (fun v91 h92 z93 d13 hw => cg_c_fr d13 hw (fun hw => fr_Walker_ancestors  d13 hw (fun v94 h95 z96 d14 hw => hK _ _ _ d14 hw)))))) (fun hw => fr_ite hw (fun hw => cg_d_fr hw (fun a97 hw => cg_I_fr d0 hw (fun v98 hw => hK _ _ _ d0 hw))) (fun hw => fr_Walker_axis_255  d0 hw hK))))))))))
theorem fr_Store_mayBecome_16 {g : hm_T} {dA : Nat → ClassId} {K Kq : Int32 → hm_T → hz_T → Prop}  {h : hm_T} {z : hz_T} (d0 : dj g h) (hw : w_Store_mayBecome_16 dA K h z) (hK : ∀ (v0 : Int32) (h : hm_T) (z : hz_T), dj g h → K v0 h z → Kq v0 (hJ g h) z) : w_Store_mayBecome_16 dA Kq (hJ g h) z := by
  unfold w_Store_mayBecome_16 at hw ⊢
  exact hK _ _ _ d0 hw
theorem fr_Store_mayBecome_40 {g : hm_T} {dA : Nat → ClassId} {K Kq : Int32 → hm_T → hz_T → Prop}  {h : hm_T} {z : hz_T} (d0 : dj g h) (hw : w_Store_mayBecome_40 dA K h z) (hK : ∀ (v0 : Int32) (h : hm_T) (z : hz_T), dj g h → K v0 h z → Kq v0 (hJ g h) z) : w_Store_mayBecome_40 dA Kq (hJ g h) z := by
  unfold w_Store_mayBecome_40 at hw ⊢
  exact hK _ _ _ d0 hw
theorem fr_Store_mayBecome {g : hm_T} {dA : Nat → ClassId} {y0 : Int32} {y1 : Option Nat} {K Kq : Int32 → hm_T → hz_T → Prop}  {h0 : hm_T} {z0 : hz_T} (d0 : dj g h0) (hw : w_Store_mayBecome dA y0 y1 K h0 z0) (hK : ∀ (v0 : Int32) (h : hm_T) (z : hz_T), dj g h → K v0 h z → Kq v0 (hJ g h) z) : w_Store_mayBecome dA y0 y1 Kq (hJ g h0) z0 := by
  unfold w_Store_mayBecome at hw ⊢
  exact cg_d_fr hw (fun a21 hw => jd_emp_fr hw (fun v22 hw => fr_ite hw (fun hw => cg_d_fr hw (fun a23 hw => jd_len_fr hw (fun v24 hw => fr_ite hw (fun hw => fr_ite hw (fun hw => fr_Store_isName  d0 hw (fun v28 h29 z30 d1 hw => cg_z_fr hw (fun hw => hK _ _ _ d1 hw))) (fun hw => fr_ite hw (fun hw => fr_Store_mayBeComment  d0 hw (fun v25 h26 z27 d2 hw => fr_ite hw (fun hw => hK _ _ _ d2 hw) (fun hw => fr_Store_mayBecome_40  d2 hw hK))) (fun hw => fr_Store_mayBecome_40  d0 hw hK))) (fun hw => fr_Store_mayBecome_16  d0 hw hK)))) (fun hw => fr_Store_mayBecome_16  d0 hw hK)))
theorem fr_Scribe_closeUpTo_2 {g : hm_T} {dA : Nat → ClassId} {y0 : Nat} {K Kq : hm_T → hz_T → Prop} (hK : ∀ (h : hm_T) (z : hz_T), dj g h → K  h z → Kq  (hJ g h) z) : ∀ (n9 : Nat) {x2 : Option Nat} {x3 : Option Nat} {h : hm_T} {z : hz_T}, dj g h → w_Scribe_closeUpTo_2 dA y0 K n9 x2 x3 h z → w_Scribe_closeUpTo_2 dA y0 Kq n9 x2 x3 (hJ g h) z := by
  intro n9
  induction n9 with
  | zero => intro x2 x3 h z d0 hw; unfold w_Scribe_closeUpTo_2 at hw; exact hw.elim
  | succ n9 ih =>
    intro x2 x3 h z d0 hw
    unfold w_Scribe_closeUpTo_2 at hw ⊢
    exact fr_ite hw (fun hw => hK _ _ d0 hw) (fun hw => fr_ite hw (fun hw => hK _ _ d0 hw) (fun hw => cg_lit_fr hw (fun a21 hw => cg_c_fr d0 hw (fun hw => fr_Scribe_putAll  d0 hw (fun h23 z24 d1 hw => cg_d_fr hw (fun a25 hw => cg_R_fr d1 hw (fun v26 hw => cg_c_fr d1 hw (fun hw => fr_Scribe_putAll  d1 hw (fun h28 z29 d2 hw => cg_c_fr d2 hw (fun hw => fr_Scribe_put  d2 hw (fun h31 z32 d3 hw => cg_d_fr hw (fun a33 hw => cg_R_fr d3 hw (fun v34 hw => ih d3 hw)))))))))))))
theorem fr_Scribe_closeUpTo {g : hm_T} {dA : Nat → ClassId} {y0 : Nat} {y1 : Option Nat} {y2 : Option Nat} {K Kq : hm_T → hz_T → Prop}  {h0 : hm_T} {z0 : hz_T} (d0 : dj g h0) (hw : w_Scribe_closeUpTo dA y0 y1 y2 K h0 z0) (hK : ∀ (h : hm_T) (z : hz_T), dj g h → K  h z → Kq  (hJ g h) z) : w_Scribe_closeUpTo dA y0 y1 y2 Kq (hJ g h0) z0 := by
  unfold w_Scribe_closeUpTo at hw ⊢
  exact fr_Scribe_closeUpTo_2 hK _ d0 hw
theorem fr_Scribe_putValue_72 {g : hm_T} {dA : Nat → ClassId} {y0 : Nat} {K Kq : hm_T → hz_T → Prop} {k3 k3q : Option Nat → Int32 → Option Nat → Int32 → hm_T → hz_T → Prop} {x1 : Option Nat} {x2 : Int32} {x3 : Option Nat} {x4 : Int32}  {h : hm_T} {z : hz_T} (d0 : dj g h) (hw : w_Scribe_putValue_72 dA y0 K k3 x1 x2 x3 x4 h z) (hK : ∀ (h : hm_T) (z : hz_T), dj g h → K  h z → Kq  (hJ g h) z) (hk3 : ∀ (v0 : Option Nat) (v1 : Int32) (v2 : Option Nat) (v3 : Int32) (h : hm_T) (z : hz_T), dj g h → k3 v0 v1 v2 v3 h z → k3q v0 v1 v2 v3 (hJ g h) z) : w_Scribe_putValue_72 dA y0 Kq k3q x1 x2 x3 x4 (hJ g h) z := by
  unfold w_Scribe_putValue_72 at hw ⊢
  exact hk3 _ _ _ _ _ _ d0 hw
theorem fr_Scribe_putValue_3 {g : hm_T} {dA : Nat → ClassId} {y0 : Nat} {K Kq : hm_T → hz_T → Prop} (hK : ∀ (h : hm_T) (z : hz_T), dj g h → K  h z → Kq  (hJ g h) z) : ∀ (n9 : Nat) {x1 : Option Nat} {x2 : Int32} {x3 : Option Nat} {x4 : Int32} {h : hm_T} {z : hz_T}, dj g h → w_Scribe_putValue_3 dA y0 K n9 x1 x2 x3 x4 h z → w_Scribe_putValue_3 dA y0 Kq n9 x1 x2 x3 x4 (hJ g h) z := by
  intro n9
  induction n9 with
  | zero => intro x1 x2 x3 x4 h z d0 hw; unfold w_Scribe_putValue_3 at hw; exact hw.elim
  | succ n9 ih =>
    intro x1 x2 x3 x4 h z d0 hw
    unfold w_Scribe_putValue_3 at hw ⊢
    exact cg_d_fr hw (fun a21 hw => jd_len_fr hw (fun v22 hw => fr_ite hw (fun hw => hK _ _ d0 hw) (fun hw => cg_d_fr hw (fun a23 hw => jd_at_fr hw (fun v24 hw => fr_ite hw (fun hw => cg_lit_fr hw (fun a35 hw => cg_c_fr d0 hw (fun hw => fr_Scribe_putAll  d0 hw (fun h37 z38 d1 hw => fr_Scribe_putValue_72  d1 hw hK (fun _ _ _ _ _ _ d9 hw => ih d9 hw))))) (fun hw => fr_ite hw (fun hw => cg_lit_fr hw (fun a31 hw => cg_c_fr d0 hw (fun hw => fr_Scribe_putAll  d0 hw (fun h33 z34 d2 hw => fr_Scribe_putValue_72  d2 hw hK (fun _ _ _ _ _ _ d9 hw => ih d9 hw))))) (fun hw => fr_ite hw (fun hw => cg_c_fr d0 hw (fun hw => fr_Scribe_putAll  d0 hw (fun h29 z30 d3 hw => fr_Scribe_putValue_72  d3 hw hK (fun _ _ _ _ _ _ d9 hw => ih d9 hw)))) (fun hw => cg_c_fr d0 hw (fun hw => fr_Scribe_put  d0 hw (fun h26 z27 d4 hw => fr_Scribe_putValue_72  d4 hw hK (fun _ _ _ _ _ _ d9 hw => ih d9 hw)))))))))))
theorem fr_Scribe_putValue {g : hm_T} {dA : Nat → ClassId} {y0 : Nat} {y1 : Option Nat} {y2 : Int32} {y3 : Option Nat} {K Kq : hm_T → hz_T → Prop}  {h0 : hm_T} {z0 : hz_T} (d0 : dj g h0) (hw : w_Scribe_putValue dA y0 y1 y2 y3 K h0 z0) (hK : ∀ (h : hm_T) (z : hz_T), dj g h → K  h z → Kq  (hJ g h) z) : w_Scribe_putValue dA y0 y1 y2 y3 Kq (hJ g h0) z0 := by
  unfold w_Scribe_putValue at hw ⊢
  exact fr_Scribe_putValue_3 hK _ d0 hw
theorem fr_Scribe_putStart_103 {g : hm_T} {dA : Nat → ClassId} {y0 : Nat} {K Kq : hm_T → hz_T → Prop} {w0 : Option Nat}  {h : hm_T} {z : hz_T} (d0 : dj g h) (hw : w_Scribe_putStart_103 dA y0 K w0 h z) (hK : ∀ (h : hm_T) (z : hz_T), dj g h → K  h z → Kq  (hJ g h) z) : w_Scribe_putStart_103 dA y0 Kq w0 (hJ g h) z := by
  unfold w_Scribe_putStart_103 at hw ⊢
  exact cg_c_fr d0 hw (fun hw => fr_Scribe_putAll  d0 hw (fun h35 z36 d1 hw => hK _ _ d1 hw))
theorem fr_Scribe_putStart_16 {g : hm_T} {dA : Nat → ClassId} {y0 : Nat} {K Kq : hm_T → hz_T → Prop} (hK : ∀ (h : hm_T) (z : hz_T), dj g h → K  h z → Kq  (hJ g h) z) : ∀ (n9 : Nat) {x1 : Option Nat} {x2 : Int32} {x3 : Int32} {h : hm_T} {z : hz_T}, dj g h → w_Scribe_putStart_16 dA y0 K n9 x1 x2 x3 h z → w_Scribe_putStart_16 dA y0 Kq n9 x1 x2 x3 (hJ g h) z := by
  intro n9
  induction n9 with
  | zero => intro x1 x2 x3 h z d0 hw; unfold w_Scribe_putStart_16 at hw; exact hw.elim
  | succ n9 ih =>
    intro x1 x2 x3 h z d0 hw
    unfold w_Scribe_putStart_16 at hw ⊢
    exact cg_d_fr hw (fun a29 hw => cg_R_fr d0 hw (fun v30 hw => cg_d_fr hw (fun a31 hw => jd_sz_fr d0 hw (fun v32 hw => fr_ite hw (fun hw => fr_ite hw (fun hw => cg_lit_fr hw (fun a33 hw => fr_Scribe_putStart_103  d0 hw hK)) (fun hw => cg_lit_fr hw (fun a37 hw => fr_Scribe_putStart_103  d0 hw hK))) (fun hw => cg_c_fr d0 hw (fun hw => fr_Scribe_put  d0 hw (fun h39 z40 d1 hw => cg_d_fr hw (fun a41 hw => cg_R_fr d1 hw (fun v42 hw => cg_d_fr hw (fun a43 hw => jd_get_fr d1 hw (fun v44 hw => cg_c_fr d1 hw (fun hw => cg_c_fr d1 hw (fun hw => fr_Attribute_name  d1 hw (fun v45 h46 z47 d2 hw => cg_c_fr d2 hw (fun hw => fr_Scribe_putAll  d2 hw (fun h49 z50 d3 hw => cg_lit_fr hw (fun a51 hw => cg_c_fr d3 hw (fun hw => fr_Scribe_putAll  d3 hw (fun h53 z54 d4 hw => cg_d_fr hw (fun a55 hw => cg_R_fr d4 hw (fun v56 hw => cg_d_fr hw (fun a57 hw => jd_get_fr d4 hw (fun v58 hw => cg_c_fr d4 hw (fun hw => cg_c_fr d4 hw (fun hw => fr_Attribute_value  d4 hw (fun v59 h60 z61 d5 hw => cg_lit_fr hw (fun a62 hw => cg_c_fr d5 hw (fun hw => fr_Scribe_putValue  d5 hw (fun h64 z65 d6 hw => cg_c_fr d6 hw (fun hw => fr_Scribe_put  d6 hw (fun h67 z68 d7 hw => ih d7 hw)))))))))))))))))))))))))))))))
theorem fr_Scribe_putStart {g : hm_T} {dA : Nat → ClassId} {y0 : Nat} {y1 : Option Nat} {y2 : Int32} {K Kq : hm_T → hz_T → Prop}  {h0 : hm_T} {z0 : hz_T} (d0 : dj g h0) (hw : w_Scribe_putStart dA y0 y1 y2 K h0 z0) (hK : ∀ (h : hm_T) (z : hz_T), dj g h → K  h z → Kq  (hJ g h) z) : w_Scribe_putStart dA y0 y1 y2 Kq (hJ g h0) z0 := by
  unfold w_Scribe_putStart at hw ⊢
  exact cg_c_fr d0 hw (fun hw => fr_Scribe_put  d0 hw (fun h22 z23 d1 hw => cg_d_fr hw (fun a24 hw => cg_R_fr d1 hw (fun v25 hw => cg_c_fr d1 hw (fun hw => fr_Scribe_putAll  d1 hw (fun h27 z28 d2 hw => fr_Scribe_putStart_16 hK _ d2 hw))))))
theorem fr_Scribe_write_133 {g : hm_T} {dA : Nat → ClassId} {y0 : Nat} {K Kq : hm_T → hz_T → Prop} {k4 k4q : Option Nat → Option Nat → Int32 → hm_T → hz_T → Prop} {x1 : Option Nat} {x2 : Option Nat} {x3 : Int32}  {h : hm_T} {z : hz_T} (d0 : dj g h) (hw : w_Scribe_write_133 dA y0 K k4 x1 x2 x3 h z) (hK : ∀ (h : hm_T) (z : hz_T), dj g h → K  h z → Kq  (hJ g h) z) (hk4 : ∀ (v0 : Option Nat) (v1 : Option Nat) (v2 : Int32) (h : hm_T) (z : hz_T), dj g h → k4 v0 v1 v2 h z → k4q v0 v1 v2 (hJ g h) z) : w_Scribe_write_133 dA y0 Kq k4q x1 x2 x3 (hJ g h) z := by
  unfold w_Scribe_write_133 at hw ⊢
  exact hk4 _ _ _ _ _ d0 hw
theorem fr_Scribe_write_83 {g : hm_T} {dA : Nat → ClassId} {y0 : Nat} {K Kq : hm_T → hz_T → Prop} {k4 k4q : Option Nat → Option Nat → Int32 → hm_T → hz_T → Prop} {x1 : Option Nat} {x3 : Int32} {w0 : Option Nat}  {h : hm_T} {z : hz_T} (d0 : dj g h) (hw : w_Scribe_write_83 dA y0 K k4 x1 x3 w0 h z) (hK : ∀ (h : hm_T) (z : hz_T), dj g h → K  h z → Kq  (hJ g h) z) (hk4 : ∀ (v0 : Option Nat) (v1 : Option Nat) (v2 : Int32) (h : hm_T) (z : hz_T), dj g h → k4 v0 v1 v2 h z → k4q v0 v1 v2 (hJ g h) z) : w_Scribe_write_83 dA y0 Kq k4q x1 x3 w0 (hJ g h) z := by
  unfold w_Scribe_write_83 at hw ⊢
  exact fr_Scribe_write_133  d0 hw hK hk4
theorem fr_Scribe_write_62 {g : hm_T} {dA : Nat → ClassId} {y0 : Nat} {K Kq : hm_T → hz_T → Prop} {k4 k4q : Option Nat → Option Nat → Int32 → hm_T → hz_T → Prop} {x1 : Option Nat} {x2 : Option Nat} {x3 : Int32} {x4 : Option Nat} {w0 : Int32}  {h : hm_T} {z : hz_T} (d0 : dj g h) (hw : w_Scribe_write_62 dA y0 K k4 x1 x2 x3 x4 w0 h z) (hK : ∀ (h : hm_T) (z : hz_T), dj g h → K  h z → Kq  (hJ g h) z) (hk4 : ∀ (v0 : Option Nat) (v1 : Option Nat) (v2 : Int32) (h : hm_T) (z : hz_T), dj g h → k4 v0 v1 v2 h z → k4q v0 v1 v2 (hJ g h) z) : w_Scribe_write_62 dA y0 Kq k4q x1 x2 x3 x4 w0 (hJ g h) z := by
  unfold w_Scribe_write_62 at hw ⊢
  exact cg_c_fr d0 hw (fun hw => fr_Scribe_putStart  d0 hw (fun h65 z66 d1 hw => fr_ite hw (fun hw => fr_Scribe_write_83  d1 hw hK hk4) (fun hw => fr_Scribe_write_83  d1 hw hK hk4)))
theorem fr_Scribe_write_4 {g : hm_T} {dA : Nat → ClassId} {y0 : Nat} {K Kq : hm_T → hz_T → Prop} (hK : ∀ (h : hm_T) (z : hz_T), dj g h → K  h z → Kq  (hJ g h) z) : ∀ (n9 : Nat) {x1 : Option Nat} {x2 : Option Nat} {x3 : Int32} {h : hm_T} {z : hz_T}, dj g h → w_Scribe_write_4 dA y0 K n9 x1 x2 x3 h z → w_Scribe_write_4 dA y0 Kq n9 x1 x2 x3 (hJ g h) z := by
  intro n9
  induction n9 with
  | zero => intro x1 x2 x3 h z d0 hw; unfold w_Scribe_write_4 at hw; exact hw.elim
  | succ n9 ih =>
    intro x1 x2 x3 h z d0 hw
    unfold w_Scribe_write_4 at hw ⊢
    exact cg_d_fr hw (fun a21 hw => cg_I_fr d0 hw (fun v22 hw => fr_ite hw (fun hw => cg_c_fr d0 hw (fun hw => fr_Scribe_closeUpTo  d0 hw (fun h24 z25 d1 hw => hK _ _ d1 hw))) (fun hw => cg_d_fr hw (fun a26 hw => cg_R_fr d0 hw (fun v27 hw => cg_d_fr hw (fun a28 hw => cg_ar_fr d0 hw (fun v29 hw => cg_d_fr hw (fun a30 hw => cg_R_fr d0 hw (fun v31 hw => cg_c_fr d0 hw (fun hw => fr_Scribe_closeUpTo  d0 hw (fun h33 z34 d2 hw => cg_d_fr hw (fun a35 hw => cg_R_fr d2 hw (fun v36 hw => cg_d_fr hw (fun a37 hw => cg_I_fr d2 hw (fun v38 hw => fr_ite hw (fun hw => cg_d_fr hw (fun a60 hw => cg_c_fr d2 hw (fun hw => fr_Tree_endOf  d2 hw (fun v61 h62 z63 d3 hw => fr_ite hw (fun hw => fr_Scribe_write_62  d3 hw hK (fun _ _ _ _ _ d9 hw => ih d9 hw)) (fun hw => fr_Scribe_write_62  d3 hw hK (fun _ _ _ _ _ d9 hw => ih d9 hw)))))) (fun hw => cg_d_fr hw (fun a39 hw => cg_I_fr d2 hw (fun v40 hw => fr_ite hw (fun hw => cg_d_fr hw (fun a54 hw => cg_R_fr d2 hw (fun v55 hw => cg_lit_fr hw (fun a56 hw => cg_c_fr d2 hw (fun hw => fr_Scribe_putValue  d2 hw (fun h58 z59 d4 hw => fr_Scribe_write_133  d4 hw hK (fun _ _ _ _ _ d9 hw => ih d9 hw))))))) (fun hw => cg_lit_fr hw (fun a41 hw => cg_c_fr d2 hw (fun hw => fr_Scribe_putAll  d2 hw (fun h43 z44 d5 hw => cg_d_fr hw (fun a45 hw => cg_R_fr d5 hw (fun v46 hw => cg_c_fr d5 hw (fun hw => fr_Scribe_putAll  d5 hw (fun h48 z49 d6 hw => cg_lit_fr hw (fun a50 hw => cg_c_fr d6 hw (fun hw => fr_Scribe_putAll  d6 hw (fun h52 z53 d7 hw => fr_Scribe_write_133  d7 hw hK (fun _ _ _ _ _ d9 hw => ih d9 hw))))))))))))))))))))))))))))))
theorem fr_Scribe_write {g : hm_T} {dA : Nat → ClassId} {y0 : Nat} {y1 : Option Nat} {K Kq : hm_T → hz_T → Prop}  {h0 : hm_T} {z0 : hz_T} (d0 : dj g h0) (hw : w_Scribe_write dA y0 y1 K h0 z0) (hK : ∀ (h : hm_T) (z : hz_T), dj g h → K  h z → Kq  (hJ g h) z) : w_Scribe_write dA y0 y1 Kq (hJ g h0) z0 := by
  unfold w_Scribe_write at hw ⊢
  exact fr_Scribe_write_4 hK _ d0 hw
theorem fr_Long_bitCount {g : hm_T} {dA : Nat → ClassId} {y0 : Int64} {K Kq : Int32 → hm_T → hz_T → Prop}  {h0 : hm_T} {z0 : hz_T} (d0 : dj g h0) (hw : w_Long_bitCount dA y0 K h0 z0) (hK : ∀ (v0 : Int32) (h : hm_T) (z : hz_T), dj g h → K v0 h z → Kq v0 (hJ g h) z) : w_Long_bitCount dA y0 Kq (hJ g h0) z0 := by
  unfold w_Long_bitCount at hw ⊢
  exact cg_lt_fr hw (fun v21 hw => cg_lt_fr hw (fun v22 hw => cg_lt_fr hw (fun v23 hw => cg_lt_fr hw (fun v24 hw => cg_lt_fr hw (fun v25 hw => cg_lt_fr hw (fun v26 hw => hK _ _ _ d0 hw))))))
theorem fr_Store_keepFound_57 {g : hm_T} {dA : Nat → ClassId} {y0 : Nat} {K Kq : hm_T → hz_T → Prop} {k7 k7q : Int64 → Int32 → hm_T → hz_T → Prop} {x1 : Int64} {x3 : Int32}  {h : hm_T} {z : hz_T} (d0 : dj g h) (hw : w_Store_keepFound_57 dA y0 K k7 x1 x3 h z) (hK : ∀ (h : hm_T) (z : hz_T), dj g h → K  h z → Kq  (hJ g h) z) (hk7 : ∀ (v0 : Int64) (v1 : Int32) (h : hm_T) (z : hz_T), dj g h → k7 v0 v1 h z → k7q v0 v1 (hJ g h) z) : w_Store_keepFound_57 dA y0 Kq k7q x1 x3 (hJ g h) z := by
  unfold w_Store_keepFound_57 at hw ⊢
  exact hk7 _ _ _ _ d0 hw
theorem fr_Store_keepFound_7 {g : hm_T} {dA : Nat → ClassId} {y0 : Nat} {K Kq : hm_T → hz_T → Prop} (hK : ∀ (h : hm_T) (z : hz_T), dj g h → K  h z → Kq  (hJ g h) z) : ∀ (n9 : Nat) {x1 : Int64} {x3 : Int32} {h : hm_T} {z : hz_T}, dj g h → w_Store_keepFound_7 dA y0 K n9 x1 x3 h z → w_Store_keepFound_7 dA y0 Kq n9 x1 x3 (hJ g h) z := by
  intro n9
  induction n9 with
  | zero => intro x1 x3 h z d0 hw; unfold w_Store_keepFound_7 at hw; exact hw.elim
  | succ n9 ih =>
    intro x1 x3 h z d0 hw
    unfold w_Store_keepFound_7 at hw ⊢
    exact cg_R_fr d0 hw (fun v22 hw => cg_d_fr hw (fun a23 hw => cg_I_fr d0 hw (fun v24 hw => fr_ite hw (fun hw => hK _ _ d0 hw) (fun hw => fr_Walker_has  d0 hw (fun v25 h26 z27 d1 hw => fr_ite hw (fun hw => fr_Store_keepFound_57  d1 hw hK (fun _ _ _ _ d9 hw => ih d9 hw)) (fun hw => cg_R_fr d1 hw (fun v28 hw => cg_I_fr d1 hw (fun v29 hw => cg_R_fr d1 hw (fun v30 hw => cg_d_fr hw (fun a31 hw => cg_R_fr d1 hw (fun v32 hw => cg_d_fr hw (fun a33 hw => cg_ar_fr d1 hw (fun v34 hw => cg_d_fr hw (fun a35 hw => cg_I_fr d1 hw (fun v36 hw => cg_d_fr hw (fun a37 hw => cg_si_fr d1 hw (fun h38 d2 hw => cg_I_fr d2 hw (fun v39 hw => cg_p_fr d2 hw (fun h40 d3 hw => fr_Store_keepFound_57  d3 hw hK (fun _ _ _ _ d9 hw => ih d9 hw))))))))))))))))))))
theorem fr_Store_keepFound {g : hm_T} {dA : Nat → ClassId} {y0 : Nat} {y1 : Int64} {K Kq : hm_T → hz_T → Prop}  {h0 : hm_T} {z0 : hz_T} (d0 : dj g h0) (hw : w_Store_keepFound dA y0 y1 K h0 z0) (hK : ∀ (h : hm_T) (z : hz_T), dj g h → K  h z → Kq  (hJ g h) z) : w_Store_keepFound dA y0 y1 Kq (hJ g h0) z0 := by
  unfold w_Store_keepFound at hw ⊢
  exact cg_p_fr d0 hw (fun h21 d1 hw => fr_Store_keepFound_7 hK _ d1 hw)
theorem fr_Predicate_init {g : hm_T} {dA : Nat → ClassId} {y0 : Nat} {K Kq : hm_T → hz_T → Prop}  {h0 : hm_T} {z0 : hz_T} (d0 : dj g h0) (hw : w_Predicate_init dA y0 K h0 z0) (hK : ∀ (h : hm_T) (z : hz_T), dj g h → K  h z → Kq  (hJ g h) z) : w_Predicate_init dA y0 Kq (hJ g h0) z0 := by
  unfold w_Predicate_init at hw ⊢
  exact cg_p_fr d0 hw (fun h21 d1 hw => cg_p_fr d1 hw (fun h22 d2 hw => cg_p_fr d2 hw (fun h23 d3 hw => cg_lit_fr hw (fun a24 hw => cg_p_fr d3 hw (fun h25 d4 hw => cg_p_fr d4 hw (fun h26 d5 hw => cg_p_fr d5 hw (fun h27 d6 hw => cg_lit_fr hw (fun a28 hw => cg_p_fr d6 hw (fun h29 d7 hw => cg_p_fr d7 hw (fun h30 d8 hw => hK _ _ d8 hw))))))))))
theorem fr_Scribe_init {g : hm_T} {dA : Nat → ClassId} {y0 : Nat} {y1 : Int32} {K Kq : hm_T → hz_T → Prop}  {h0 : hm_T} {z0 : hz_T} (d0 : dj g h0) (hw : w_Scribe_init dA y0 y1 K h0 z0) (hK : ∀ (h : hm_T) (z : hz_T), dj g h → K  h z → Kq  (hJ g h) z) : w_Scribe_init dA y0 y1 Kq (hJ g h0) z0 := by
  unfold w_Scribe_init at hw ⊢
  exact cg_p_fr d0 hw (fun h21 d1 hw => cg_p_fr d1 hw (fun h22 d2 hw => cg_p_fr d2 hw (fun h23 d3 hw => hK _ _ d3 hw)))
theorem fr_TextReader_init6 {g : hm_T} {dA : Nat → ClassId} {y0 : Nat} {y1 : Option Nat} {K Kq : hm_T → hz_T → Prop}  {h0 : hm_T} {z0 : hz_T} (d0 : dj g h0) (hw : w_TextReader_init6 dA y0 y1 K h0 z0) (hK : ∀ (h : hm_T) (z : hz_T), dj g h → K  h z → Kq  (hJ g h) z) : w_TextReader_init6 dA y0 y1 Kq (hJ g h0) z0 := by
  unfold w_TextReader_init6 at hw ⊢
  exact cg_p_fr d0 hw (fun h21 d1 hw => cg_p_fr d1 hw (fun h22 d2 hw => cg_p_fr d2 hw (fun h23 d3 hw => hK _ _ d3 hw)))
theorem fr_TextReader_init10 {g : hm_T} {dA : Nat → ClassId} {y0 : Nat} {y1 : Option Nat} {K Kq : hm_T → hz_T → Prop}  {h0 : hm_T} {z0 : hz_T} (d0 : dj g h0) (hw : w_TextReader_init10 dA y0 y1 K h0 z0) (hK : ∀ (h : hm_T) (z : hz_T), dj g h → K  h z → Kq  (hJ g h) z) : w_TextReader_init10 dA y0 y1 Kq (hJ g h0) z0 := by
  unfold w_TextReader_init10 at hw ⊢
  exact cg_p_fr d0 hw (fun h21 d1 hw => cg_p_fr d1 hw (fun h22 d2 hw => cg_p_fr d2 hw (fun h23 d3 hw => hK _ _ d3 hw)))
theorem fr_Tree_put_44 {g : hm_T} {dA : Nat → ClassId} {y0 : Nat} {K Kq : hm_T → hz_T → Prop} (hK : ∀ (h : hm_T) (z : hz_T), dj g h → K  h z → Kq  (hJ g h) z) : ∀ (n9 : Nat) {x1 : Option Nat} {x2 : Int32} {x3 : Int32} {x4 : Int32} {h : hm_T} {z : hz_T}, dj g h → w_Tree_put_44 dA y0 K n9 x1 x2 x3 x4 h z → w_Tree_put_44 dA y0 Kq n9 x1 x2 x3 x4 (hJ g h) z := by
  intro n9
  induction n9 with
  | zero => intro x1 x2 x3 x4 h z d0 hw; unfold w_Tree_put_44 at hw; exact hw.elim
  | succ n9 ih =>
    intro x1 x2 x3 x4 h z d0 hw
    unfold w_Tree_put_44 at hw ⊢
    exact fr_ite hw (fun hw => cg_I_fr d0 hw (fun v24 hw => cg_p_fr d0 hw (fun h25 d1 hw => cg_c_fr d1 hw (fun hw => fr_Tree_setPlaces  d1 hw (fun h27 z28 d2 hw => hK _ _ d2 hw))))) (fun hw => cg_d_fr hw (fun a29 hw => jd_get_fr d0 hw (fun v30 hw => cg_c_fr d0 hw (fun hw => cg_I_fr d0 hw (fun v31 hw => cg_p_fr d0 hw (fun h32 d3 hw => cg_R_fr d3 hw (fun v33 hw => cg_I_fr d3 hw (fun v34 hw => cg_d_fr hw (fun a35 hw => cg_c_fr d3 hw (fun hw => cg_sr_fr d3 hw (fun h36 d4 hw => cg_I_fr d4 hw (fun v37 hw => cg_p_fr d4 hw (fun h38 d5 hw => cg_R_fr d5 hw (fun v39 hw => cg_d_fr hw (fun a40 hw => cg_c_fr d5 hw (fun hw => cg_sr_fr d5 hw (fun h41 d6 hw => ih d6 hw)))))))))))))))))
theorem fr_Tree_put_13 {g : hm_T} {dA : Nat → ClassId} {y0 : Nat} {K Kq : hm_T → hz_T → Prop} (hK : ∀ (h : hm_T) (z : hz_T), dj g h → K  h z → Kq  (hJ g h) z) : ∀ (n9 : Nat) {x1 : Option Nat} {x2 : Int32} {x3 : Int32} {x4 : Int32} {h : hm_T} {z : hz_T}, dj g h → w_Tree_put_13 dA y0 K n9 x1 x2 x3 x4 h z → w_Tree_put_13 dA y0 Kq n9 x1 x2 x3 x4 (hJ g h) z := by
  intro n9
  induction n9 with
  | zero => intro x1 x2 x3 x4 h z d0 hw; unfold w_Tree_put_13 at hw; exact hw.elim
  | succ n9 ih =>
    intro x1 x2 x3 x4 h z d0 hw
    unfold w_Tree_put_13 at hw ⊢
    exact fr_ite hw (fun hw => fr_Tree_put_44 hK _ d0 hw) (fun hw => cg_R_fr d0 hw (fun v42 hw => cg_R_fr d0 hw (fun v43 hw => cg_d_fr hw (fun a44 hw => cg_ar_fr d0 hw (fun v45 hw => cg_d_fr hw (fun a46 hw => cg_d_fr hw (fun a48 hw => cg_c_fr d0 hw (fun hw => cg_sr_fr d0 hw (fun h47 d1 hw => ih d1 hw)))))))))
theorem fr_Tree_put {g : hm_T} {dA : Nat → ClassId} {y0 : Nat} {y1 : Option Nat} {y2 : Int32} {K Kq : hm_T → hz_T → Prop}  {h0 : hm_T} {z0 : hz_T} (d0 : dj g h0) (hw : w_Tree_put dA y0 y1 y2 K h0 z0) (hK : ∀ (h : hm_T) (z : hz_T), dj g h → K  h z → Kq  (hJ g h) z) : w_Tree_put dA y0 y1 y2 Kq (hJ g h0) z0 := by
  unfold w_Tree_put at hw ⊢
  exact cg_d_fr hw (fun a21 hw => jd_sz_fr d0 hw (fun v22 hw => cg_I_fr d0 hw (fun v23 hw => fr_Tree_put_13 hK _ d0 hw)))
theorem fr_Tree_takeOut_25 {g : hm_T} {dA : Nat → ClassId} {y0 : Nat} {K Kq : hm_T → hz_T → Prop} (hK : ∀ (h : hm_T) (z : hz_T), dj g h → K  h z → Kq  (hJ g h) z) : ∀ (n9 : Nat) {x1 : Int32} {x2 : Int32} {x3 : Int32} {h : hm_T} {z : hz_T}, dj g h → w_Tree_takeOut_25 dA y0 K n9 x1 x2 x3 h z → w_Tree_takeOut_25 dA y0 Kq n9 x1 x2 x3 (hJ g h) z := by
  intro n9
  induction n9 with
  | zero => intro x1 x2 x3 h z d0 hw; unfold w_Tree_takeOut_25 at hw; exact hw.elim
  | succ n9 ih =>
    intro x1 x2 x3 h z d0 hw
    unfold w_Tree_takeOut_25 at hw ⊢
    exact cg_I_fr d0 hw (fun v21 hw => fr_ite hw (fun hw => cg_I_fr d0 hw (fun v22 hw => cg_p_fr d0 hw (fun h23 d1 hw => cg_c_fr d1 hw (fun hw => fr_Tree_setPlaces  d1 hw (fun h25 z26 d2 hw => hK _ _ d2 hw))))) (fun hw => cg_R_fr d0 hw (fun v27 hw => cg_R_fr d0 hw (fun v28 hw => cg_d_fr hw (fun a29 hw => cg_ar_fr d0 hw (fun v30 hw => cg_d_fr hw (fun a31 hw => cg_d_fr hw (fun a33 hw => cg_c_fr d0 hw (fun hw => cg_sr_fr d0 hw (fun h32 d3 hw => ih d3 hw))))))))))
theorem fr_Tree_takeOut_2 {g : hm_T} {dA : Nat → ClassId} {y0 : Nat} {K Kq : hm_T → hz_T → Prop} (hK : ∀ (h : hm_T) (z : hz_T), dj g h → K  h z → Kq  (hJ g h) z) : ∀ (n9 : Nat) {x1 : Int32} {x2 : Int32} {x3 : Int32} {h : hm_T} {z : hz_T}, dj g h → w_Tree_takeOut_2 dA y0 K n9 x1 x2 x3 h z → w_Tree_takeOut_2 dA y0 Kq n9 x1 x2 x3 (hJ g h) z := by
  intro n9
  induction n9 with
  | zero => intro x1 x2 x3 h z d0 hw; unfold w_Tree_takeOut_2 at hw; exact hw.elim
  | succ n9 ih =>
    intro x1 x2 x3 h z d0 hw
    unfold w_Tree_takeOut_2 at hw ⊢
    exact fr_ite hw (fun hw => fr_Tree_takeOut_25 hK _ d0 hw) (fun hw => cg_R_fr d0 hw (fun v34 hw => cg_d_fr hw (fun a35 hw => cg_ar_fr d0 hw (fun v36 hw => cg_d_fr hw (fun a37 hw => cg_p_fr d0 hw (fun h38 d1 hw => ih d1 hw))))))
theorem fr_Tree_takeOut {g : hm_T} {dA : Nat → ClassId} {y0 : Nat} {y1 : Int32} {y2 : Int32} {K Kq : hm_T → hz_T → Prop}  {h0 : hm_T} {z0 : hz_T} (d0 : dj g h0) (hw : w_Tree_takeOut dA y0 y1 y2 K h0 z0) (hK : ∀ (h : hm_T) (z : hz_T), dj g h → K  h z → Kq  (hJ g h) z) : w_Tree_takeOut dA y0 y1 y2 Kq (hJ g h0) z0 := by
  unfold w_Tree_takeOut at hw ⊢
  exact fr_Tree_takeOut_2 hK _ d0 hw
theorem fr_Tree_clear {g : hm_T} {dA : Nat → ClassId} {y0 : Nat} {K Kq : hm_T → hz_T → Prop}  {h0 : hm_T} {z0 : hz_T} (d0 : dj g h0) (hw : w_Tree_clear dA y0 K h0 z0) (hK : ∀ (h : hm_T) (z : hz_T), dj g h → K  h z → Kq  (hJ g h) z) : w_Tree_clear dA y0 Kq (hJ g h0) z0 := by
  unfold w_Tree_clear at hw ⊢
  exact cg_I_fr d0 hw (fun v21 hw => cg_c_fr d0 hw (fun hw => fr_Tree_takeOut  d0 hw (fun h23 z24 d1 hw => hK _ _ d1 hw)))
theorem fr_Tree_keep_2 {g : hm_T} {dA : Nat → ClassId} {y0 : Nat} {K Kq : hm_T → hz_T → Prop} (hK : ∀ (h : hm_T) (z : hz_T), dj g h → K  h z → Kq  (hJ g h) z) : ∀ (n9 : Nat) {x1 : Int32} {h : hm_T} {z : hz_T}, dj g h → w_Tree_keep_2 dA y0 K n9 x1 h z → w_Tree_keep_2 dA y0 Kq n9 x1 (hJ g h) z := by
  intro n9
  induction n9 with
  | zero => intro x1 h z d0 hw; unfold w_Tree_keep_2 at hw; exact hw.elim
  | succ n9 ih =>
    intro x1 h z d0 hw
    unfold w_Tree_keep_2 at hw ⊢
    exact cg_I_fr d0 hw (fun v21 hw => fr_ite hw (fun hw => cg_I_fr d0 hw (fun v22 hw => cg_p_fr d0 hw (fun h23 d1 hw => hK _ _ d1 hw))) (fun hw => cg_R_fr d0 hw (fun v24 hw => cg_R_fr d0 hw (fun v25 hw => cg_d_fr hw (fun a26 hw => cg_ar_fr d0 hw (fun v27 hw => cg_d_fr hw (fun a28 hw => cg_d_fr hw (fun a30 hw => cg_c_fr d0 hw (fun hw => cg_sr_fr d0 hw (fun h29 d2 hw => cg_R_fr d2 hw (fun v31 hw => cg_d_fr hw (fun a32 hw => cg_ar_fr d2 hw (fun v33 hw => cg_R_fr d2 hw (fun v34 hw => cg_d_fr hw (fun a35 hw => cg_ar_fr d2 hw (fun v36 hw => cg_d_fr hw (fun a37 hw => cg_R_fr d2 hw (fun v38 hw => cg_d_fr hw (fun a39 hw => cg_p_fr d2 hw (fun h40 d3 hw => ih d3 hw))))))))))))))))))))
theorem fr_Tree_keep {g : hm_T} {dA : Nat → ClassId} {y0 : Nat} {K Kq : hm_T → hz_T → Prop}  {h0 : hm_T} {z0 : hz_T} (d0 : dj g h0) (hw : w_Tree_keep dA y0 K h0 z0) (hK : ∀ (h : hm_T) (z : hz_T), dj g h → K  h z → Kq  (hJ g h) z) : w_Tree_keep dA y0 Kq (hJ g h0) z0 := by
  unfold w_Tree_keep at hw ⊢
  exact fr_Tree_keep_2 hK _ d0 hw
theorem fr_Tree_giveBack_6 {g : hm_T} {dA : Nat → ClassId} {y0 : Nat} {K Kq : hm_T → hz_T → Prop} (hK : ∀ (h : hm_T) (z : hz_T), dj g h → K  h z → Kq  (hJ g h) z) : ∀ (n9 : Nat) {x1 : Int32} {h : hm_T} {z : hz_T}, dj g h → w_Tree_giveBack_6 dA y0 K n9 x1 h z → w_Tree_giveBack_6 dA y0 Kq n9 x1 (hJ g h) z := by
  intro n9
  induction n9 with
  | zero => intro x1 h z d0 hw; unfold w_Tree_giveBack_6 at hw; exact hw.elim
  | succ n9 ih =>
    intro x1 h z d0 hw
    unfold w_Tree_giveBack_6 at hw ⊢
    exact cg_I_fr d0 hw (fun v24 hw => fr_ite hw (fun hw => cg_I_fr d0 hw (fun v25 hw => cg_p_fr d0 hw (fun h26 d1 hw => cg_c_fr d1 hw (fun hw => fr_Tree_setPlaces  d1 hw (fun h28 z29 d2 hw => hK _ _ d2 hw))))) (fun hw => cg_R_fr d0 hw (fun v30 hw => cg_R_fr d0 hw (fun v31 hw => cg_d_fr hw (fun a32 hw => cg_ar_fr d0 hw (fun v33 hw => cg_d_fr hw (fun a34 hw => cg_d_fr hw (fun a36 hw => cg_c_fr d0 hw (fun hw => cg_sr_fr d0 hw (fun h35 d3 hw => cg_R_fr d3 hw (fun v37 hw => cg_d_fr hw (fun a38 hw => cg_ar_fr d3 hw (fun v39 hw => cg_R_fr d3 hw (fun v40 hw => cg_d_fr hw (fun a41 hw => cg_ar_fr d3 hw (fun v42 hw => cg_d_fr hw (fun a43 hw => cg_R_fr d3 hw (fun v44 hw => cg_d_fr hw (fun a45 hw => cg_p_fr d3 hw (fun h46 d4 hw => ih d4 hw))))))))))))))))))))
theorem fr_Tree_giveBack {g : hm_T} {dA : Nat → ClassId} {y0 : Nat} {K Kq : hm_T → hz_T → Prop}  {h0 : hm_T} {z0 : hz_T} (d0 : dj g h0) (hw : w_Tree_giveBack dA y0 K h0 z0) (hK : ∀ (h : hm_T) (z : hz_T), dj g h → K  h z → Kq  (hJ g h) z) : w_Tree_giveBack dA y0 Kq (hJ g h0) z0 := by
  unfold w_Tree_giveBack at hw ⊢
  exact cg_c_fr d0 hw (fun hw => fr_Tree_clear  d0 hw (fun h22 z23 d1 hw => fr_Tree_giveBack_6 hK _ d1 hw))
theorem fr_Walker_init {g : hm_T} {dA : Nat → ClassId} {y0 : Nat} {y1 : Option Nat} {K Kq : hm_T → hz_T → Prop}  {h0 : hm_T} {z0 : hz_T} (d0 : dj g h0) (hw : w_Walker_init dA y0 y1 K h0 z0) (hK : ∀ (h : hm_T) (z : hz_T), dj g h → K  h z → Kq  (hJ g h) z) : w_Walker_init dA y0 y1 Kq (hJ g h0) z0 := by
  unfold w_Walker_init at hw ⊢
  exact cg_p_fr d0 hw (fun h21 d1 hw => hK _ _ d1 hw)
theorem fr_Walker_sift_72 {g : hm_T} {dA : Nat → ClassId} {y0 : Nat} {K Kq : Int64 → hm_T → hz_T → Prop} {w0 : Int64} {w1 : Int64}  {h : hm_T} {z : hz_T} (d0 : dj g h) (hw : w_Walker_sift_72 dA y0 K w0 w1 h z) (hK : ∀ (v0 : Int64) (h : hm_T) (z : hz_T), dj g h → K v0 h z → Kq v0 (hJ g h) z) : w_Walker_sift_72 dA y0 Kq w0 w1 (hJ g h) z := by
  unfold w_Walker_sift_72 at hw ⊢
  exact hK _ _ _ d0 hw
theorem fr_Walker_sift_53 {g : hm_T} {dA : Nat → ClassId} {y0 : Nat} {K Kq : Int64 → hm_T → hz_T → Prop} {x1 : Option Nat} {x2 : Int64} {x5 : Int64}  {h : hm_T} {z : hz_T} (d0 : dj g h) (hw : w_Walker_sift_53 dA y0 K x1 x2 x5 h z) (hK : ∀ (v0 : Int64) (h : hm_T) (z : hz_T), dj g h → K v0 h z → Kq v0 (hJ g h) z) : w_Walker_sift_53 dA y0 Kq x1 x2 x5 (hJ g h) z := by
  unfold w_Walker_sift_53 at hw ⊢
  exact cg_d_fr hw (fun a27 hw => cg_I_fr d0 hw (fun v28 hw => fr_ite hw (fun hw => fr_Walker_sift_72  d0 hw hK) (fun hw => fr_Walker_sift_72  d0 hw hK)))
theorem fr_Walker_sift {g : hm_T} {dA : Nat → ClassId} {y0 : Nat} {y1 : Option Nat} {y2 : Int64} {y4 : Int32} {K Kq : Int64 → hm_T → hz_T → Prop}  {h0 : hm_T} {z0 : hz_T} (d0 : dj g h0) (hw : w_Walker_sift dA y0 y1 y2 y4 K h0 z0) (hK : ∀ (v0 : Int64) (h : hm_T) (z : hz_T), dj g h → K v0 h z → Kq v0 (hJ g h) z) : w_Walker_sift dA y0 y1 y2 y4 Kq (hJ g h0) z0 := by
  unfold w_Walker_sift at hw ⊢
  exact cg_d_fr hw (fun a21 hw => cg_L_fr d0 hw (fun v22 hw => cg_d_fr hw (fun a23 hw => cg_I_fr d0 hw (fun v24 hw => fr_ite hw (fun hw => cg_d_fr hw (fun a35 hw => cg_I_fr d0 hw (fun v36 hw => cg_c_fr d0 hw (fun hw => fr_Walker_atPosition  d0 hw (fun v37 h38 z39 d1 hw => fr_Walker_sift_53  d1 hw hK))))) (fun hw => cg_d_fr hw (fun a25 hw => cg_I_fr d0 hw (fun v26 hw => fr_ite hw (fun hw => fr_Long_bitCount  d0 hw (fun v29 h30 z31 d2 hw => cg_c_fr d2 hw (fun hw => fr_Walker_atPosition  d2 hw (fun v32 h33 z34 d3 hw => fr_Walker_sift_53  d3 hw hK)))) (fun hw => fr_Walker_sift_53  d0 hw hK))))))))
theorem fr_Store_beginBatch {g : hm_T} {dA : Nat → ClassId} {y0 : Nat} {K Kq : hm_T → hz_T → Prop}  {h0 : hm_T} {z0 : hz_T} (d0 : dj g h0) (hw : w_Store_beginBatch dA y0 K h0 z0) (hK : ∀ (h : hm_T) (z : hz_T), dj g h → K  h z → Kq  (hJ g h) z) : w_Store_beginBatch dA y0 Kq (hJ g h0) z0 := by
  unfold w_Store_beginBatch at hw ⊢
  exact cg_R_fr d0 hw (fun v21 hw => cg_d_fr hw (fun a22 hw => cg_c_fr d0 hw (fun hw => fr_Tree_keep  d0 hw (fun h24 z25 d1 hw => cg_p_fr d1 hw (fun h26 d2 hw => hK _ _ d2 hw)))))
theorem fr_Store_putNew_40 {g : hm_T} {dA : Nat → ClassId} {y0 : Nat} {K Kq : Int32 → hm_T → hz_T → Prop}  {h : hm_T} {z : hz_T} (d0 : dj g h) (hw : w_Store_putNew_40 dA y0 K h z) (hK : ∀ (v0 : Int32) (h : hm_T) (z : hz_T), dj g h → K v0 h z → Kq v0 (hJ g h) z) : w_Store_putNew_40 dA y0 Kq (hJ g h) z := by
  unfold w_Store_putNew_40 at hw ⊢
  exact hK _ _ _ d0 hw
theorem fr_Store_putNew {g : hm_T} {dA : Nat → ClassId} {y0 : Nat} {y1 : Option Nat} {y2 : Int32} {K Kq : Int32 → hm_T → hz_T → Prop}  {h0 : hm_T} {z0 : hz_T} (d0 : dj g h0) (hw : w_Store_putNew dA y0 y1 y2 K h0 z0) (hK : ∀ (v0 : Int32) (h : hm_T) (z : hz_T), dj g h → K v0 h z → Kq v0 (hJ g h) z) : w_Store_putNew dA y0 y1 y2 Kq (hJ g h0) z0 := by
  unfold w_Store_putNew at hw ⊢
  exact cg_d_fr hw (fun a21 hw => cg_R_fr d0 hw (fun v22 hw => cg_d_fr hw (fun a23 hw => jd_sz_fr d0 hw (fun v24 hw => cg_d_fr hw (fun a25 hw => cg_c_fr d0 hw (fun hw => fr_MarkupReader_passesLimits  d0 hw (fun v26 h27 z28 d1 hw => fr_ite hw (fun hw => cg_R_fr d1 hw (fun v29 hw => cg_d_fr hw (fun a30 hw => cg_I_fr d1 hw (fun v31 hw => fr_ite hw (fun hw => fr_Store_putNew_40  d1 hw hK) (fun hw => cg_R_fr d1 hw (fun v32 hw => cg_d_fr hw (fun a33 hw => cg_c_fr d1 hw (fun hw => fr_Tree_mayMake  d1 hw (fun v34 h35 z36 d2 hw => fr_ite hw (fun hw => fr_Store_putNew_40  d2 hw hK) (fun hw => cg_R_fr d2 hw (fun v37 hw => cg_d_fr hw (fun a38 hw => cg_R_fr d2 hw (fun v39 hw => cg_d_fr hw (fun a40 hw => cg_c_fr d2 hw (fun hw => fr_Tree_put  d2 hw (fun h42 z43 d3 hw => cg_I_fr d3 hw (fun v44 hw => cg_p_fr d3 hw (fun h45 d4 hw => cg_R_fr d4 hw (fun v46 hw => cg_d_fr hw (fun a47 hw => cg_R_fr d4 hw (fun v48 hw => cg_d_fr hw (fun a49 hw => cg_ar_fr d4 hw (fun v50 hw => cg_d_fr hw (fun a51 hw => cg_I_fr d4 hw (fun v52 hw => hK _ _ _ d4 hw))))))))))))))))))))))))) (fun hw => fr_Store_putNew_40  d1 hw hK))))))))
theorem fr_Walker_lead_45 {g : hm_T} {dA : Nat → ClassId} {y0 : Nat} {K Kq : Int64 → hm_T → hz_T → Prop} (hK : ∀ (v0 : Int64) (h : hm_T) (z : hz_T), dj g h → K v0 h z → Kq v0 (hJ g h) z) : ∀ (n9 : Nat) {x1 : Option Nat} {x5 : Int64} {x7 : Int32} {h : hm_T} {z : hz_T}, dj g h → w_Walker_lead_45 dA y0 K n9 x1 x5 x7 h z → w_Walker_lead_45 dA y0 Kq n9 x1 x5 x7 (hJ g h) z := by
  intro n9
  induction n9 with
  | zero => intro x1 x5 x7 h z d0 hw; unfold w_Walker_lead_45 at hw; exact hw.elim
  | succ n9 ih =>
    intro x1 x5 x7 h z d0 hw
    unfold w_Walker_lead_45 at hw ⊢
    exact cg_d_fr hw (fun a33 hw => cg_R_fr d0 hw (fun v34 hw => cg_d_fr hw (fun a35 hw => jd_sz_fr d0 hw (fun v36 hw => fr_ite hw (fun hw => hK _ _ _ d0 hw) (fun hw => cg_d_fr hw (fun a37 hw => cg_R_fr d0 hw (fun v38 hw => cg_d_fr hw (fun a39 hw => jd_get_fr d0 hw (fun v40 hw => cg_c_fr d0 hw (fun hw => cg_d_fr hw (fun a41 hw => cg_c_fr d0 hw (fun hw => fr_Step_goesBackwards  d0 hw (fun v42 h43 z44 d1 hw => cg_c_fr d1 hw (fun hw => fr_Walker_sift  d1 hw (fun v45 h46 z47 d2 hw => ih d2 hw)))))))))))))))
theorem fr_Walker_lead_33 {g : hm_T} {dA : Nat → ClassId} {y0 : Nat} {K Kq : Int64 → hm_T → hz_T → Prop} {x1 : Option Nat} {w0 : Int64}  {h : hm_T} {z : hz_T} (d0 : dj g h) (hw : w_Walker_lead_33 dA y0 K x1 w0 h z) (hK : ∀ (v0 : Int64) (h : hm_T) (z : hz_T), dj g h → K v0 h z → Kq v0 (hJ g h) z) : w_Walker_lead_33 dA y0 Kq x1 w0 (hJ g h) z := by
  unfold w_Walker_lead_33 at hw ⊢
  exact cg_d_fr hw (fun a31 hw => cg_L_fr d0 hw (fun v32 hw => fr_Walker_lead_45 hK _ d0 hw))
theorem fr_Walker_lead {g : hm_T} {dA : Nat → ClassId} {y0 : Nat} {y1 : Option Nat} {y2 : Int32} {K Kq : Int64 → hm_T → hz_T → Prop}  {h0 : hm_T} {z0 : hz_T} (d0 : dj g h0) (hw : w_Walker_lead dA y0 y1 y2 K h0 z0) (hK : ∀ (v0 : Int64) (h : hm_T) (z : hz_T), dj g h → K v0 h z → Kq v0 (hJ g h) z) : w_Walker_lead dA y0 y1 y2 Kq (hJ g h0) z0 := by
  unfold w_Walker_lead at hw ⊢
  exact fr_ite hw (fun hw => cg_d_fr hw (fun a48 hw => cg_I_fr d0 hw (fun v49 hw => cg_c_fr d0 hw (fun hw => fr_Walker_documentAxis  d0 hw (fun v50 h51 z52 d1 hw => fr_Walker_lead_33  d1 hw hK))))) (fun hw => cg_d_fr hw (fun a21 hw => cg_I_fr d0 hw (fun v22 hw => cg_R_fr d0 hw (fun v23 hw => cg_d_fr hw (fun a24 hw => cg_R_fr d0 hw (fun v25 hw => cg_d_fr hw (fun a26 hw => cg_ar_fr d0 hw (fun v27 hw => cg_c_fr d0 hw (fun hw => fr_Walker_axis  d0 hw (fun v28 h29 z30 d2 hw => fr_Walker_lead_33  d2 hw hK))))))))))
theorem fr_Store_commit {g : hm_T} {dA : Nat → ClassId} {y0 : Nat} {K Kq : Int32 → hm_T → hz_T → Prop}  {h0 : hm_T} {z0 : hz_T} (d0 : dj g h0) (hw : w_Store_commit dA y0 K h0 z0) (hK : ∀ (v0 : Int32) (h : hm_T) (z : hz_T), dj g h → K v0 h z → Kq v0 (hJ g h) z) : w_Store_commit dA y0 Kq (hJ g h0) z0 := by
  unfold w_Store_commit at hw ⊢
  exact cg_I_fr d0 hw (fun v21 hw => cg_c_fr d0 hw (fun hw => fr_Store_beginBatch  d0 hw (fun h23 z24 d1 hw => hK _ _ _ d1 hw)))
theorem fr_Walker_whence_42 {g : hm_T} {dA : Nat → ClassId} {y0 : Nat} {K Kq : Int64 → hm_T → hz_T → Prop} {k6 k6q : Option Nat → Int64 → Int64 → Int32 → hm_T → hz_T → Prop} {x1 : Option Nat} {x2 : Int64} {x6 : Int32} {w0 : Int64} {w1 : Int64}  {h : hm_T} {z : hz_T} (d0 : dj g h) (hw : w_Walker_whence_42 dA y0 K k6 x1 x2 x6 w0 w1 h z) (hK : ∀ (v0 : Int64) (h : hm_T) (z : hz_T), dj g h → K v0 h z → Kq v0 (hJ g h) z) (hk6 : ∀ (v0 : Option Nat) (v1 : Int64) (v2 : Int64) (v3 : Int32) (h : hm_T) (z : hz_T), dj g h → k6 v0 v1 v2 v3 h z → k6q v0 v1 v2 v3 (hJ g h) z) : w_Walker_whence_42 dA y0 Kq k6q x1 x2 x6 w0 w1 (hJ g h) z := by
  unfold w_Walker_whence_42 at hw ⊢
  exact hk6 _ _ _ _ _ _ d0 hw
theorem fr_Walker_whence_6 {g : hm_T} {dA : Nat → ClassId} {y0 : Nat} {K Kq : Int64 → hm_T → hz_T → Prop} (hK : ∀ (v0 : Int64) (h : hm_T) (z : hz_T), dj g h → K v0 h z → Kq v0 (hJ g h) z) : ∀ (n9 : Nat) {x1 : Option Nat} {x2 : Int64} {x4 : Int64} {x6 : Int32} {h : hm_T} {z : hz_T}, dj g h → w_Walker_whence_6 dA y0 K n9 x1 x2 x4 x6 h z → w_Walker_whence_6 dA y0 Kq n9 x1 x2 x4 x6 (hJ g h) z := by
  intro n9
  induction n9 with
  | zero => intro x1 x2 x4 x6 h z d0 hw; unfold w_Walker_whence_6 at hw; exact hw.elim
  | succ n9 ih =>
    intro x1 x2 x4 x6 h z d0 hw
    unfold w_Walker_whence_6 at hw ⊢
    exact cg_R_fr d0 hw (fun v21 hw => cg_d_fr hw (fun a22 hw => cg_I_fr d0 hw (fun v23 hw => fr_ite hw (fun hw => hK _ _ _ d0 hw) (fun hw => cg_c_fr d0 hw (fun hw => fr_Walker_lead  d0 hw (fun v24 h25 z26 d1 hw => fr_ite hw (fun hw => fr_Walker_whence_42  d1 hw hK (fun _ _ _ _ _ _ d9 hw => ih d9 hw)) (fun hw => fr_Walker_whence_42  d1 hw hK (fun _ _ _ _ _ _ d9 hw => ih d9 hw))))))))
theorem fr_Walker_whence {g : hm_T} {dA : Nat → ClassId} {y0 : Nat} {y1 : Option Nat} {y2 : Int64} {K Kq : Int64 → hm_T → hz_T → Prop}  {h0 : hm_T} {z0 : hz_T} (d0 : dj g h0) (hw : w_Walker_whence dA y0 y1 y2 K h0 z0) (hK : ∀ (v0 : Int64) (h : hm_T) (z : hz_T), dj g h → K v0 h z → Kq v0 (hJ g h) z) : w_Walker_whence dA y0 y1 y2 Kq (hJ g h0) z0 := by
  unfold w_Walker_whence at hw ⊢
  exact fr_Walker_whence_6 hK _ d0 hw
theorem fr_Walker_leadAll_40 {g : hm_T} {dA : Nat → ClassId} {y0 : Nat} {K Kq : Int64 → hm_T → hz_T → Prop} {k6 k6q : Option Nat → Int64 → Int64 → Int32 → hm_T → hz_T → Prop} {x1 : Option Nat} {x2 : Int64} {x6 : Int32} {w0 : Int64} {w1 : Int64}  {h : hm_T} {z : hz_T} (d0 : dj g h) (hw : w_Walker_leadAll_40 dA y0 K k6 x1 x2 x6 w0 w1 h z) (hK : ∀ (v0 : Int64) (h : hm_T) (z : hz_T), dj g h → K v0 h z → Kq v0 (hJ g h) z) (hk6 : ∀ (v0 : Option Nat) (v1 : Int64) (v2 : Int64) (v3 : Int32) (h : hm_T) (z : hz_T), dj g h → k6 v0 v1 v2 v3 h z → k6q v0 v1 v2 v3 (hJ g h) z) : w_Walker_leadAll_40 dA y0 Kq k6q x1 x2 x6 w0 w1 (hJ g h) z := by
  unfold w_Walker_leadAll_40 at hw ⊢
  exact hk6 _ _ _ _ _ _ d0 hw
theorem fr_Walker_leadAll_6 {g : hm_T} {dA : Nat → ClassId} {y0 : Nat} {K Kq : Int64 → hm_T → hz_T → Prop} (hK : ∀ (v0 : Int64) (h : hm_T) (z : hz_T), dj g h → K v0 h z → Kq v0 (hJ g h) z) : ∀ (n9 : Nat) {x1 : Option Nat} {x2 : Int64} {x4 : Int64} {x6 : Int32} {h : hm_T} {z : hz_T}, dj g h → w_Walker_leadAll_6 dA y0 K n9 x1 x2 x4 x6 h z → w_Walker_leadAll_6 dA y0 Kq n9 x1 x2 x4 x6 (hJ g h) z := by
  intro n9
  induction n9 with
  | zero => intro x1 x2 x4 x6 h z d0 hw; unfold w_Walker_leadAll_6 at hw; exact hw.elim
  | succ n9 ih =>
    intro x1 x2 x4 x6 h z d0 hw
    unfold w_Walker_leadAll_6 at hw ⊢
    exact cg_R_fr d0 hw (fun v21 hw => cg_d_fr hw (fun a22 hw => cg_I_fr d0 hw (fun v23 hw => fr_ite hw (fun hw => hK _ _ _ d0 hw) (fun hw => fr_Walker_has  d0 hw (fun v24 h25 z26 d1 hw => fr_ite hw (fun hw => fr_Walker_leadAll_40  d1 hw hK (fun _ _ _ _ _ _ d9 hw => ih d9 hw)) (fun hw => cg_c_fr d1 hw (fun hw => fr_Walker_lead  d1 hw (fun v27 h28 z29 d2 hw => fr_Walker_leadAll_40  d2 hw hK (fun _ _ _ _ _ _ d9 hw => ih d9 hw)))))))))
theorem fr_Walker_leadAll {g : hm_T} {dA : Nat → ClassId} {y0 : Nat} {y1 : Option Nat} {y2 : Int64} {K Kq : Int64 → hm_T → hz_T → Prop}  {h0 : hm_T} {z0 : hz_T} (d0 : dj g h0) (hw : w_Walker_leadAll dA y0 y1 y2 K h0 z0) (hK : ∀ (v0 : Int64) (h : hm_T) (z : hz_T), dj g h → K v0 h z → Kq v0 (hJ g h) z) : w_Walker_leadAll dA y0 y1 y2 Kq (hJ g h0) z0 := by
  unfold w_Walker_leadAll at hw ⊢
  exact fr_Walker_leadAll_6 hK _ d0 hw
theorem fr_Walker_goFrom_66 {g : hm_T} {dA : Nat → ClassId} {y0 : Nat} {K Kq : Int64 → hm_T → hz_T → Prop} {k5 k5q : Int32 → Option Nat → Int64 → Int32 → hm_T → hz_T → Prop} {x1 : Int32} {x2 : Option Nat} {x3 : Int64} {x5 : Int32}  {h : hm_T} {z : hz_T} (d0 : dj g h) (hw : w_Walker_goFrom_66 dA y0 K k5 x1 x2 x3 x5 h z) (hK : ∀ (v0 : Int64) (h : hm_T) (z : hz_T), dj g h → K v0 h z → Kq v0 (hJ g h) z) (hk5 : ∀ (v0 : Int32) (v1 : Option Nat) (v2 : Int64) (v3 : Int32) (h : hm_T) (z : hz_T), dj g h → k5 v0 v1 v2 v3 h z → k5q v0 v1 v2 v3 (hJ g h) z) : w_Walker_goFrom_66 dA y0 Kq k5q x1 x2 x3 x5 (hJ g h) z := by
  unfold w_Walker_goFrom_66 at hw ⊢
  exact hk5 _ _ _ _ _ _ d0 hw
theorem fr_Walker_goFrom_51 {g : hm_T} {dA : Nat → ClassId} {y0 : Nat} {K Kq : Int64 → hm_T → hz_T → Prop} {k5 k5q : Int32 → Option Nat → Int64 → Int32 → hm_T → hz_T → Prop} {x1 : Int32} {x2 : Option Nat} {x5 : Int32} {w0 : Int32} {w1 : Option Nat}  {h : hm_T} {z : hz_T} (d0 : dj g h) (hw : w_Walker_goFrom_51 dA y0 K k5 x1 x2 x5 w0 w1 h z) (hK : ∀ (v0 : Int64) (h : hm_T) (z : hz_T), dj g h → K v0 h z → Kq v0 (hJ g h) z) (hk5 : ∀ (v0 : Int32) (v1 : Option Nat) (v2 : Int64) (v3 : Int32) (h : hm_T) (z : hz_T), dj g h → k5 v0 v1 v2 v3 h z → k5q v0 v1 v2 v3 (hJ g h) z) : w_Walker_goFrom_51 dA y0 Kq k5q x1 x2 x5 w0 w1 (hJ g h) z := by
  unfold w_Walker_goFrom_51 at hw ⊢
  exact cg_c_fr d0 hw (fun hw => fr_Walker_lead  d0 hw (fun v34 h35 z36 d1 hw => fr_Walker_goFrom_66  d1 hw hK hk5))
theorem fr_Walker_goFrom_5 {g : hm_T} {dA : Nat → ClassId} {y0 : Nat} {K Kq : Int64 → hm_T → hz_T → Prop} (hK : ∀ (v0 : Int64) (h : hm_T) (z : hz_T), dj g h → K v0 h z → Kq v0 (hJ g h) z) : ∀ (n9 : Nat) {x1 : Int32} {x2 : Option Nat} {x3 : Int64} {x5 : Int32} {h : hm_T} {z : hz_T}, dj g h → w_Walker_goFrom_5 dA y0 K n9 x1 x2 x3 x5 h z → w_Walker_goFrom_5 dA y0 Kq n9 x1 x2 x3 x5 (hJ g h) z := by
  intro n9
  induction n9 with
  | zero => intro x1 x2 x3 x5 h z d0 hw; unfold w_Walker_goFrom_5 at hw; exact hw.elim
  | succ n9 ih =>
    intro x1 x2 x3 x5 h z d0 hw
    unfold w_Walker_goFrom_5 at hw ⊢
    exact cg_d_fr hw (fun a21 hw => cg_R_fr d0 hw (fun v22 hw => cg_d_fr hw (fun a23 hw => jd_sz_fr d0 hw (fun v24 hw => fr_ite hw (fun hw => hK _ _ _ d0 hw) (fun hw => cg_d_fr hw (fun a25 hw => cg_R_fr d0 hw (fun v26 hw => cg_d_fr hw (fun a27 hw => jd_get_fr d0 hw (fun v28 hw => cg_c_fr d0 hw (fun hw => fr_ite hw (fun hw => cg_d_fr hw (fun a32 hw => cg_I_fr d0 hw (fun v33 hw => fr_ite hw (fun hw => fr_Walker_goFrom_51  d0 hw hK (fun _ _ _ _ _ _ d9 hw => ih d9 hw)) (fun hw => fr_Walker_goFrom_51  d0 hw hK (fun _ _ _ _ _ _ d9 hw => ih d9 hw))))) (fun hw => cg_c_fr d0 hw (fun hw => fr_Walker_leadAll  d0 hw (fun v29 h30 z31 d1 hw => fr_Walker_goFrom_66  d1 hw hK (fun _ _ _ _ _ _ d9 hw => ih d9 hw))))))))))))))
theorem fr_Walker_goFrom {g : hm_T} {dA : Nat → ClassId} {y0 : Nat} {y1 : Int32} {y2 : Option Nat} {K Kq : Int64 → hm_T → hz_T → Prop}  {h0 : hm_T} {z0 : hz_T} (d0 : dj g h0) (hw : w_Walker_goFrom dA y0 y1 y2 K h0 z0) (hK : ∀ (v0 : Int64) (h : hm_T) (z : hz_T), dj g h → K v0 h z → Kq v0 (hJ g h) z) : w_Walker_goFrom dA y0 y1 y2 Kq (hJ g h0) z0 := by
  unfold w_Walker_goFrom at hw ⊢
  exact fr_Walker_goFrom_5 hK _ d0 hw
theorem fr_Walker_origins_90 {g : hm_T} {dA : Nat → ClassId} {y0 : Nat} {K Kq : Int64 → hm_T → hz_T → Prop} {k14 k14q : Option Nat → Int64 → Int32 → hm_T → hz_T → Prop} {x1 : Option Nat} {x4 : Int64} {x6 : Int32}  {h : hm_T} {z : hz_T} (d0 : dj g h) (hw : w_Walker_origins_90 dA y0 K k14 x1 x4 x6 h z) (hK : ∀ (v0 : Int64) (h : hm_T) (z : hz_T), dj g h → K v0 h z → Kq v0 (hJ g h) z) (hk14 : ∀ (v0 : Option Nat) (v1 : Int64) (v2 : Int32) (h : hm_T) (z : hz_T), dj g h → k14 v0 v1 v2 h z → k14q v0 v1 v2 (hJ g h) z) : w_Walker_origins_90 dA y0 Kq k14q x1 x4 x6 (hJ g h) z := by
  unfold w_Walker_origins_90 at hw ⊢
  exact hk14 _ _ _ _ _ d0 hw
theorem fr_Walker_origins_80 {g : hm_T} {dA : Nat → ClassId} {y0 : Nat} {K Kq : Int64 → hm_T → hz_T → Prop} {k14 k14q : Option Nat → Int64 → Int32 → hm_T → hz_T → Prop} {x1 : Option Nat} {x4 : Int64} {x6 : Int32} {x7 : Option Nat}  {h : hm_T} {z : hz_T} (d0 : dj g h) (hw : w_Walker_origins_80 dA y0 K k14 x1 x4 x6 x7 h z) (hK : ∀ (v0 : Int64) (h : hm_T) (z : hz_T), dj g h → K v0 h z → Kq v0 (hJ g h) z) (hk14 : ∀ (v0 : Option Nat) (v1 : Int64) (v2 : Int32) (h : hm_T) (z : hz_T), dj g h → k14 v0 v1 v2 h z → k14q v0 v1 v2 (hJ g h) z) : w_Walker_origins_80 dA y0 Kq k14q x1 x4 x6 x7 (hJ g h) z := by
  unfold w_Walker_origins_80 at hw ⊢
  exact cg_c_fr d0 hw (fun hw => fr_Walker_whence  d0 hw (fun v29 h30 z31 d1 hw => fr_Walker_origins_90  d1 hw hK hk14))
theorem fr_Walker_origins_75 {g : hm_T} {dA : Nat → ClassId} {y0 : Nat} {K Kq : Int64 → hm_T → hz_T → Prop} {k14 k14q : Option Nat → Int64 → Int32 → hm_T → hz_T → Prop} {x1 : Option Nat} {x6 : Int32} {w0 : Int64}  {h : hm_T} {z : hz_T} (d0 : dj g h) (hw : w_Walker_origins_75 dA y0 K k14 x1 x6 w0 h z) (hK : ∀ (v0 : Int64) (h : hm_T) (z : hz_T), dj g h → K v0 h z → Kq v0 (hJ g h) z) (hk14 : ∀ (v0 : Option Nat) (v1 : Int64) (v2 : Int32) (h : hm_T) (z : hz_T), dj g h → k14 v0 v1 v2 h z → k14q v0 v1 v2 (hJ g h) z) : w_Walker_origins_75 dA y0 Kq k14q x1 x6 w0 (hJ g h) z := by
  unfold w_Walker_origins_75 at hw ⊢
  exact fr_Walker_origins_90  d0 hw hK hk14
theorem fr_Walker_origins_14 {g : hm_T} {dA : Nat → ClassId} {y0 : Nat} {K Kq : Int64 → hm_T → hz_T → Prop} (hK : ∀ (v0 : Int64) (h : hm_T) (z : hz_T), dj g h → K v0 h z → Kq v0 (hJ g h) z) : ∀ (n9 : Nat) {x1 : Option Nat} {x4 : Int64} {x6 : Int32} {h : hm_T} {z : hz_T}, dj g h → w_Walker_origins_14 dA y0 K n9 x1 x4 x6 h z → w_Walker_origins_14 dA y0 Kq n9 x1 x4 x6 (hJ g h) z := by
  intro n9
  induction n9 with
  | zero => intro x1 x4 x6 h z d0 hw; unfold w_Walker_origins_14 at hw; exact hw.elim
  | succ n9 ih =>
    intro x1 x4 x6 h z d0 hw
    unfold w_Walker_origins_14 at hw ⊢
    exact fr_ite hw (fun hw => hK _ _ _ d0 hw) (fun hw => cg_d_fr hw (fun a25 hw => cg_R_fr d0 hw (fun v26 hw => cg_d_fr hw (fun a27 hw => jd_get_fr d0 hw (fun v28 hw => cg_c_fr d0 hw (fun hw => fr_ite hw (fun hw => cg_d_fr hw (fun a32 hw => cg_I_fr d0 hw (fun v33 hw => fr_ite hw (fun hw => fr_Walker_origins_80  d0 hw hK (fun _ _ _ _ _ d9 hw => ih d9 hw)) (fun hw => cg_c_fr d0 hw (fun hw => fr_Walker_lead  d0 hw (fun v34 h35 z36 d1 hw => fr_ite hw (fun hw => fr_Walker_origins_75  d1 hw hK (fun _ _ _ _ _ d9 hw => ih d9 hw)) (fun hw => cg_R_fr d1 hw (fun v37 hw => cg_d_fr hw (fun a38 hw => cg_I_fr d1 hw (fun v39 hw => fr_Walker_range  d1 hw (fun v40 h41 z42 d2 hw => fr_Walker_origins_75  d2 hw hK (fun _ _ _ _ _ d9 hw => ih d9 hw)))))))))))) (fun hw => fr_Walker_origins_80  d0 hw hK (fun _ _ _ _ _ d9 hw => ih d9 hw))))))))
theorem fr_Walker_origins {g : hm_T} {dA : Nat → ClassId} {y0 : Nat} {y1 : Option Nat} {y2 : Int64} {K Kq : Int64 → hm_T → hz_T → Prop}  {h0 : hm_T} {z0 : hz_T} (d0 : dj g h0) (hw : w_Walker_origins dA y0 y1 y2 K h0 z0) (hK : ∀ (v0 : Int64) (h : hm_T) (z : hz_T), dj g h → K v0 h z → Kq v0 (hJ g h) z) : w_Walker_origins dA y0 y1 y2 Kq (hJ g h0) z0 := by
  unfold w_Walker_origins at hw ⊢
  exact cg_d_fr hw (fun a21 hw => cg_R_fr d0 hw (fun v22 hw => cg_d_fr hw (fun a23 hw => jd_sz_fr d0 hw (fun v24 hw => fr_Walker_origins_14 hK _ d0 hw))))
theorem fr_MarkupReader_startsWithText_31 {g : hm_T} {dA : Nat → ClassId} {y0 : Nat} {K Kq : Int32 → hm_T → hz_T → Prop}  {h : hm_T} {z : hz_T} (d0 : dj g h) (hw : w_MarkupReader_startsWithText_31 dA y0 K h z) (hK : ∀ (v0 : Int32) (h : hm_T) (z : hz_T), dj g h → K v0 h z → Kq v0 (hJ g h) z) : w_MarkupReader_startsWithText_31 dA y0 Kq (hJ g h) z := by
  unfold w_MarkupReader_startsWithText_31 at hw ⊢
  exact hK _ _ _ d0 hw
theorem fr_MarkupReader_startsWithText {g : hm_T} {dA : Nat → ClassId} {y0 : Nat} {K Kq : Int32 → hm_T → hz_T → Prop}  {h0 : hm_T} {z0 : hz_T} (d0 : dj g h0) (hw : w_MarkupReader_startsWithText dA y0 K h0 z0) (hK : ∀ (v0 : Int32) (h : hm_T) (z : hz_T), dj g h → K v0 h z → Kq v0 (hJ g h) z) : w_MarkupReader_startsWithText dA y0 Kq (hJ g h0) z0 := by
  unfold w_MarkupReader_startsWithText at hw ⊢
  exact cg_R_fr d0 hw (fun v21 hw => cg_d_fr hw (fun a22 hw => jd_no_fr d0 hw (fun v23 hw => fr_ite hw (fun hw => cg_R_fr d0 hw (fun v24 hw => cg_d_fr hw (fun a25 hw => jd_get_fr d0 hw (fun v26 hw => cg_c_fr d0 hw (fun hw => fr_Store_isText  d0 hw (fun v27 h28 z29 d1 hw => fr_ite hw (fun hw => fr_MarkupReader_startsWithText_31  d1 hw hK) (fun hw => hK _ _ _ d1 hw))))))) (fun hw => fr_MarkupReader_startsWithText_31  d0 hw hK))))
theorem fr_AbstractCollection_init4 {g : hm_T} {dA : Nat → ClassId} {y0 : Nat} {rc : Nat} {rs : Nat} {K Kq : hm_T → hz_T → Prop}  {h0 : hm_T} {z0 : hz_T} (d0 : dj g h0) (hw : w_AbstractCollection_init4 dA y0 rc rs K h0 z0) (hK : ∀ (h : hm_T) (z : hz_T), dj g h → K  h z → Kq  (hJ g h) z) : w_AbstractCollection_init4 dA y0 rc rs Kq (hJ g h0) z0 := by
  unfold w_AbstractCollection_init4 at hw ⊢
  exact hK _ _ d0 hw
theorem fr_AbstractList_init4 {g : hm_T} {dA : Nat → ClassId} {y0 : Nat} {rc : Nat} {rs : Nat} {K Kq : hm_T → hz_T → Prop}  {h0 : hm_T} {z0 : hz_T} (d0 : dj g h0) (hw : w_AbstractList_init4 dA y0 rc rs K h0 z0) (hK : ∀ (h : hm_T) (z : hz_T), dj g h → K  h z → Kq  (hJ g h) z) : w_AbstractList_init4 dA y0 rc rs Kq (hJ g h0) z0 := by
  unfold w_AbstractList_init4 at hw ⊢
  exact cg_c_fr d0 hw (fun hw => cg_rm_fr hw (fun c24 s25 c26 s27 hw => fr_AbstractCollection_init4  d0 hw (fun h22 z23 d1 hw => cg_p_fr d1 hw (fun h28 d2 hw => hK _ _ d2 hw))))
theorem fr_ArrayList_init {g : hm_T} {dA : Nat → ClassId} {y0 : Nat} {rc : Nat} {rs : Nat} {K Kq : hm_T → hz_T → Prop}  {h0 : hm_T} {z0 : hz_T} (d0 : dj g h0) (hw : w_ArrayList_init dA y0 rc rs K h0 z0) (hK : ∀ (h : hm_T) (z : hz_T), dj g h → K  h z → Kq  (hJ g h) z) : w_ArrayList_init dA y0 rc rs Kq (hJ g h0) z0 := by
  unfold w_ArrayList_init at hw ⊢
  exact cg_c_fr d0 hw (fun hw => cg_rm_fr hw (fun c24 s25 c26 s27 hw => fr_AbstractList_init4  d0 hw (fun h22 z23 d1 hw => cg_p_fr d1 hw (fun h28 d2 hw => hK _ _ d2 hw))))
theorem fr_ArraysSupport_newLength_21 {g : hm_T} {dA : Nat → ClassId} {K Kq : Int32 → hm_T → hz_T → Prop} {x0 : Int32} {x1 : Int32} {cr : Nat} {sr : Nat}  {h : hm_T} {z : hz_T} (d0 : dj g h) (hw : w_ArraysSupport_newLength_21 dA K x0 x1 cr sr h z) (hK : ∀ (v0 : Int32) (h : hm_T) (z : hz_T), dj g h → K v0 h z → Kq v0 (hJ g h) z) : w_ArraysSupport_newLength_21 dA Kq x0 x1 cr sr (hJ g h) z := by
  unfold w_ArraysSupport_newLength_21 at hw ⊢
  exact False.elim hw
theorem fr_ArraysSupport_newLength {g : hm_T} {dA : Nat → ClassId} {y0 : Int32} {y1 : Int32} {y2 : Int32} {rc : Nat} {rs : Nat} {K Kq : Int32 → hm_T → hz_T → Prop}  {h0 : hm_T} {z0 : hz_T} (d0 : dj g h0) (hw : w_ArraysSupport_newLength dA y0 y1 y2 rc rs K h0 z0) (hK : ∀ (v0 : Int32) (h : hm_T) (z : hz_T), dj g h → K v0 h z → Kq v0 (hJ g h) z) : w_ArraysSupport_newLength dA y0 y1 y2 rc rs Kq (hJ g h0) z0 := by
  unfold w_ArraysSupport_newLength at hw ⊢
  exact fr_ite hw (fun hw => fr_ArraysSupport_newLength_21  d0 hw hK) (fun hw => fr_ite hw (fun hw => fr_ArraysSupport_newLength_21  d0 hw hK) (fun hw => hK _ _ _ d0 hw))
theorem fr_Arrays_copyOfC_24 {g : hm_T} {dA : Nat → ClassId} {K Kq : Option Nat → hm_T → hz_T → Prop} {x0 : Option Nat} {x1 : Int32} {w0 : Option Nat} {cr : Nat} {sr : Nat}  {h : hm_T} {z : hz_T} (d0 : dj g h) (hw : w_Arrays_copyOfC_24 dA K x0 x1 w0 cr sr h z) (hK : ∀ (v0 : Option Nat) (h : hm_T) (z : hz_T), dj g h → K v0 h z → Kq v0 (hJ g h) z) : w_Arrays_copyOfC_24 dA Kq x0 x1 w0 cr sr (hJ g h) z := by
  unfold w_Arrays_copyOfC_24 at hw ⊢
  exact cg_d_fr hw (fun a25 hw => cg_alo_fr d0 hw (fun v26 hw => cg_d_fr hw (fun a27 hw => cg_d_fr hw (fun a28 hw => cg_cpq_fr d0 hw (fun h29 d1 hw => hK _ _ _ d1 hw)))))
theorem fr_Arrays_copyOfC {g : hm_T} {dA : Nat → ClassId} {y0 : Option Nat} {y1 : Int32} {y2 : Option Nat} {rc : Nat} {rs : Nat} {K Kq : Option Nat → hm_T → hz_T → Prop}  {h0 : hm_T} {z0 : hz_T} (d0 : dj g h0) (hw : w_Arrays_copyOfC dA y0 y1 y2 rc rs K h0 z0) (hK : ∀ (v0 : Option Nat) (h : hm_T) (z : hz_T), dj g h → K v0 h z → Kq v0 (hJ g h) z) : w_Arrays_copyOfC dA y0 y1 y2 rc rs Kq (hJ g h0) z0 := by
  unfold w_Arrays_copyOfC at hw ⊢
  exact fr_ite hw (fun hw => cg_nq_fr d0 hw (fun q21 c23 s24 h22 d1 hw => fr_Arrays_copyOfC_24  d1 hw hK)) (fun hw => False.elim hw)
theorem fr_Arrays_copyOfO {g : hm_T} {dA : Nat → ClassId} {y0 : Option Nat} {y1 : Int32} {rc : Nat} {rs : Nat} {K Kq : Option Nat → hm_T → hz_T → Prop}  {h0 : hm_T} {z0 : hz_T} (d0 : dj g h0) (hw : w_Arrays_copyOfO dA y0 y1 rc rs K h0 z0) (hK : ∀ (v0 : Option Nat) (h : hm_T) (z : hz_T), dj g h → K v0 h z → Kq v0 (hJ g h) z) : w_Arrays_copyOfO dA y0 y1 rc rs Kq (hJ g h0) z0 := by
  unfold w_Arrays_copyOfO at hw ⊢
  exact cg_d_fr hw (fun a21 hw => cg_oa_fr d0 hw (fun hw => cg_rm_fr hw (fun c25 s26 c27 s28 hw => fr_Arrays_copyOfC  d0 hw (fun v22 h23 z24 d1 hw => hK _ _ _ d1 hw))))
theorem fr_AL_growI_20 {g : hm_T} {dA : Nat → ClassId} {y0 : Nat} {K Kq : Option Nat → hm_T → hz_T → Prop} {x1 : Int32} {x2 : Int32} {cr : Nat} {sr : Nat}  {h : hm_T} {z : hz_T} (d0 : dj g h) (hw : w_AL_growI_20 dA y0 K x1 x2 cr sr h z) (hK : ∀ (v0 : Option Nat) (h : hm_T) (z : hz_T), dj g h → K v0 h z → Kq v0 (hJ g h) z) : w_AL_growI_20 dA y0 Kq x1 x2 cr sr (hJ g h) z := by
  unfold w_AL_growI_20 at hw ⊢
  exact cg_rm_fr hw (fun c27 s28 c29 s30 hw => fr_ArraysSupport_newLength  d0 hw (fun v24 h25 z26 d1 hw => cg_R_fr d1 hw (fun v31 hw => cg_rm_fr hw (fun c35 s36 c37 s38 hw => fr_Arrays_copyOfO  d1 hw (fun v32 h33 z34 d2 hw => cg_p_fr d2 hw (fun h39 d3 hw => hK _ _ _ d3 hw))))))
theorem fr_AL_growI {g : hm_T} {dA : Nat → ClassId} {y0 : Nat} {y1 : Int32} {rc : Nat} {rs : Nat} {K Kq : Option Nat → hm_T → hz_T → Prop}  {h0 : hm_T} {z0 : hz_T} (d0 : dj g h0) (hw : w_AL_growI dA y0 y1 rc rs K h0 z0) (hK : ∀ (v0 : Option Nat) (h : hm_T) (z : hz_T), dj g h → K v0 h z → Kq v0 (hJ g h) z) : w_AL_growI dA y0 y1 rc rs Kq (hJ g h0) z0 := by
  unfold w_AL_growI at hw ⊢
  exact cg_R_fr d0 hw (fun v21 hw => cg_d_fr hw (fun a22 hw => cg_alo_fr d0 hw (fun v23 hw => fr_ite hw (fun hw => fr_AL_growI_20  d0 hw hK) (fun hw => cg_R_fr d0 hw (fun v40 hw => fr_ite hw (fun hw => cg_nq_fr d0 hw (fun q41 c43 s44 h42 d1 hw => cg_p_fr d1 hw (fun h45 d2 hw => hK _ _ _ d2 hw))) (fun hw => fr_AL_growI_20  d0 hw hK))))))
theorem fr_AL_grow {g : hm_T} {dA : Nat → ClassId} {y0 : Nat} {rc : Nat} {rs : Nat} {K Kq : Option Nat → hm_T → hz_T → Prop}  {h0 : hm_T} {z0 : hz_T} (d0 : dj g h0) (hw : w_AL_grow dA y0 rc rs K h0 z0) (hK : ∀ (v0 : Option Nat) (h : hm_T) (z : hz_T), dj g h → K v0 h z → Kq v0 (hJ g h) z) : w_AL_grow dA y0 rc rs Kq (hJ g h0) z0 := by
  unfold w_AL_grow at hw ⊢
  exact cg_I_fr d0 hw (fun v21 hw => cg_c_fr d0 hw (fun hw => cg_rm_fr hw (fun c25 s26 c27 s28 hw => fr_AL_growI  d0 hw (fun v22 h23 z24 d1 hw => hK _ _ _ d1 hw))))
theorem fr_AL_add3_11 {g : hm_T} {dA : Nat → ClassId} {y0 : Nat} {K Kq : hm_T → hz_T → Prop} {x1 : Option Nat} {x2 : Option Nat} {x3 : Int32} {cr : Nat} {sr : Nat}  {h : hm_T} {z : hz_T} (d0 : dj g h) (hw : w_AL_add3_11 dA y0 K x1 x2 x3 cr sr h z) (hK : ∀ (h : hm_T) (z : hz_T), dj g h → K  h z → Kq  (hJ g h) z) : w_AL_add3_11 dA y0 Kq x1 x2 x3 cr sr (hJ g h) z := by
  unfold w_AL_add3_11 at hw ⊢
  exact cg_d_fr hw (fun a23 hw => cg_d_fr hw (fun a25 hw => cg_sro_fr d0 hw (fun h24 d1 hw => cg_p_fr d1 hw (fun h26 d2 hw => hK _ _ d2 hw))))
theorem fr_AL_add3 {g : hm_T} {dA : Nat → ClassId} {y0 : Nat} {y1 : Option Nat} {y2 : Option Nat} {y3 : Int32} {rc : Nat} {rs : Nat} {K Kq : hm_T → hz_T → Prop}  {h0 : hm_T} {z0 : hz_T} (d0 : dj g h0) (hw : w_AL_add3 dA y0 y1 y2 y3 rc rs K h0 z0) (hK : ∀ (h : hm_T) (z : hz_T), dj g h → K  h z → Kq  (hJ g h) z) : w_AL_add3 dA y0 y1 y2 y3 rc rs Kq (hJ g h0) z0 := by
  unfold w_AL_add3 at hw ⊢
  exact cg_d_fr hw (fun a21 hw => cg_alo_fr d0 hw (fun v22 hw => fr_ite hw (fun hw => cg_c_fr d0 hw (fun hw => cg_rm_fr hw (fun c30 s31 c32 s33 hw => fr_AL_grow  d0 hw (fun v27 h28 z29 d1 hw => fr_AL_add3_11  d1 hw hK)))) (fun hw => fr_AL_add3_11  d0 hw hK)))
theorem fr_AL_add {g : hm_T} {dA : Nat → ClassId} {y0 : Nat} {y1 : Option Nat} {rc : Nat} {rs : Nat} {K Kq : Int32 → hm_T → hz_T → Prop}  {h0 : hm_T} {z0 : hz_T} (d0 : dj g h0) (hw : w_AL_add dA y0 y1 rc rs K h0 z0) (hK : ∀ (v0 : Int32) (h : hm_T) (z : hz_T), dj g h → K v0 h z → Kq v0 (hJ g h) z) : w_AL_add dA y0 y1 rc rs Kq (hJ g h0) z0 := by
  unfold w_AL_add at hw ⊢
  exact cg_I_fr d0 hw (fun v21 hw => cg_p_fr d0 hw (fun h22 d1 hw => cg_R_fr d1 hw (fun v23 hw => cg_I_fr d1 hw (fun v24 hw => cg_c_fr d1 hw (fun hw => cg_rm_fr hw (fun c28 s29 c30 s31 hw => fr_AL_add3  d1 hw (fun h26 z27 d2 hw => hK _ _ _ d2 hw)))))))
theorem fr_Arrays_copyOfI {g : hm_T} {dA : Nat → ClassId} {y0 : Option Nat} {y1 : Int32} {rc : Nat} {rs : Nat} {K Kq : Option Nat → hm_T → hz_T → Prop}  {h0 : hm_T} {z0 : hz_T} (d0 : dj g h0) (hw : w_Arrays_copyOfI dA y0 y1 rc rs K h0 z0) (hK : ∀ (v0 : Option Nat) (h : hm_T) (z : hz_T), dj g h → K v0 h z → Kq v0 (hJ g h) z) : w_Arrays_copyOfI dA y0 y1 rc rs Kq (hJ g h0) z0 := by
  unfold w_Arrays_copyOfI at hw ⊢
  exact cg_d_fr hw (fun a21 hw => cg_al_fr d0 hw (fun v22 hw => fr_ite hw (fun hw => False.elim hw) (fun hw => cg_na_fr d0 hw (fun q23 c25 s26 h24 d1 hw => cg_d_fr hw (fun a27 hw => cg_al_fr d1 hw (fun v28 hw => cg_d_fr hw (fun a29 hw => cg_cpi_fr d1 hw (fun h30 d2 hw => hK _ _ _ d2 hw))))))))
theorem fr_AbstractStringBuilder_length3 {g : hm_T} {dA : Nat → ClassId} {y0 : Nat} {rc : Nat} {rs : Nat} {K Kq : Int32 → hm_T → hz_T → Prop}  {h0 : hm_T} {z0 : hz_T} (d0 : dj g h0) (hw : w_AbstractStringBuilder_length3 dA y0 rc rs K h0 z0) (hK : ∀ (v0 : Int32) (h : hm_T) (z : hz_T), dj g h → K v0 h z → Kq v0 (hJ g h) z) : w_AbstractStringBuilder_length3 dA y0 rc rs Kq (hJ g h0) z0 := by
  unfold w_AbstractStringBuilder_length3 at hw ⊢
  exact cg_I_fr d0 hw (fun v21 hw => hK _ _ _ d0 hw)
theorem fr_SB_length {g : hm_T} {dA : Nat → ClassId} {y0 : Nat} {rc : Nat} {rs : Nat} {K Kq : Int32 → hm_T → hz_T → Prop}  {h0 : hm_T} {z0 : hz_T} (d0 : dj g h0) (hw : w_SB_length dA y0 rc rs K h0 z0) (hK : ∀ (v0 : Int32) (h : hm_T) (z : hz_T), dj g h → K v0 h z → Kq v0 (hJ g h) z) : w_SB_length dA y0 rc rs Kq (hJ g h0) z0 := by
  unfold w_SB_length at hw ⊢
  exact cg_c_fr d0 hw (fun hw => cg_rm_fr hw (fun c24 s25 c26 s27 hw => fr_AbstractStringBuilder_length3  d0 hw (fun v21 h22 z23 d1 hw => hK _ _ _ d1 hw)))
theorem fr_AbstractStringBuilder_init3 {g : hm_T} {dA : Nat → ClassId} {y0 : Nat} {y1 : Int32} {rc : Nat} {rs : Nat} {K Kq : hm_T → hz_T → Prop}  {h0 : hm_T} {z0 : hz_T} (d0 : dj g h0) (hw : w_AbstractStringBuilder_init3 dA y0 y1 rc rs K h0 z0) (hK : ∀ (h : hm_T) (z : hz_T), dj g h → K  h z → Kq  (hJ g h) z) : w_AbstractStringBuilder_init3 dA y0 y1 rc rs Kq (hJ g h0) z0 := by
  unfold w_AbstractStringBuilder_init3 at hw ⊢
  exact cg_na_fr d0 hw (fun q21 c23 s24 h22 d1 hw => cg_p_fr d1 hw (fun h25 d2 hw => cg_p_fr d2 hw (fun h26 d3 hw => hK _ _ d3 hw)))
theorem fr_SB_init {g : hm_T} {dA : Nat → ClassId} {y0 : Nat} {rc : Nat} {rs : Nat} {K Kq : hm_T → hz_T → Prop}  {h0 : hm_T} {z0 : hz_T} (d0 : dj g h0) (hw : w_SB_init dA y0 rc rs K h0 z0) (hK : ∀ (h : hm_T) (z : hz_T), dj g h → K  h z → Kq  (hJ g h) z) : w_SB_init dA y0 rc rs Kq (hJ g h0) z0 := by
  unfold w_SB_init at hw ⊢
  exact cg_c_fr d0 hw (fun hw => cg_rm_fr hw (fun c24 s25 c26 s27 hw => fr_AbstractStringBuilder_init3  d0 hw (fun h22 z23 d1 hw => hK _ _ d1 hw)))
theorem fr_Record_init9 {g : hm_T} {dA : Nat → ClassId} {y0 : Nat} {rc : Nat} {rs : Nat} {K Kq : hm_T → hz_T → Prop}  {h0 : hm_T} {z0 : hz_T} (d0 : dj g h0) (hw : w_Record_init9 dA y0 rc rs K h0 z0) (hK : ∀ (h : hm_T) (z : hz_T), dj g h → K  h z → Kq  (hJ g h) z) : w_Record_init9 dA y0 rc rs Kq (hJ g h0) z0 := by
  unfold w_Record_init9 at hw ⊢
  exact hK _ _ d0 hw
theorem fr_Store_type_24 {g : hm_T} {dA : Nat → ClassId} {y0 : Nat} {K Kq : Int32 → hm_T → hz_T → Prop} {cr : Nat} {sr : Nat}  {h : hm_T} {z : hz_T} (d0 : dj g h) (hw : w_Store_type_24 dA y0 K cr sr h z) (hK : ∀ (v0 : Int32) (h : hm_T) (z : hz_T), dj g h → K v0 h z → Kq v0 (hJ g h) z) : w_Store_type_24 dA y0 Kq cr sr (hJ g h) z := by
  unfold w_Store_type_24 at hw ⊢
  exact hK _ _ _ d0 hw
theorem fr_Store_type {g : hm_T} {dA : Nat → ClassId} {y0 : Nat} {y1 : Int32} {rc : Nat} {rs : Nat} {K Kq : Int32 → hm_T → hz_T → Prop}  {h0 : hm_T} {z0 : hz_T} (d0 : dj g h0) (hw : w_Store_type dA y0 y1 rc rs K h0 z0) (hK : ∀ (v0 : Int32) (h : hm_T) (z : hz_T), dj g h → K v0 h z → Kq v0 (hJ g h) z) : w_Store_type dA y0 y1 rc rs Kq (hJ g h0) z0 := by
  unfold w_Store_type at hw ⊢
  exact fr_ite hw (fun hw => fr_Store_type_24  d0 hw hK) (fun hw => fr_ite hw (fun hw => fr_Store_type_24  d0 hw hK) (fun hw => cg_R_fr d0 hw (fun v21 hw => cg_d_fr hw (fun a22 hw => cg_c_fr d0 hw (fun hw => cg_rm_fr hw (fun c26 s27 c28 s29 hw => fr_SB_length  d0 hw (fun v23 h24 z25 d1 hw => fr_ite hw (fun hw => cg_R_fr d1 hw (fun v30 hw => cg_d_fr hw (fun a31 hw => cg_c_fr d1 hw (fun hw => cg_k_fr hw (fun c35 s36 hw => fr_SB_app  d1 hw (fun v32 h33 z34 d2 hw => hK _ _ _ d2 hw)))))) (fun hw => fr_Store_type_24  d1 hw hK))))))))
theorem fr_Store_crash {g : hm_T} {dA : Nat → ClassId} {y0 : Nat} {rc : Nat} {rs : Nat} {K Kq : Int32 → hm_T → hz_T → Prop}  {h0 : hm_T} {z0 : hz_T} (d0 : dj g h0) (hw : w_Store_crash dA y0 rc rs K h0 z0) (hK : ∀ (v0 : Int32) (h : hm_T) (z : hz_T), dj g h → K v0 h z → Kq v0 (hJ g h) z) : w_Store_crash dA y0 rc rs Kq (hJ g h0) z0 := by
  unfold w_Store_crash at hw ⊢
  exact cg_I_fr d0 hw (fun v21 hw => cg_R_fr d0 hw (fun v22 hw => cg_d_fr hw (fun a23 hw => cg_c_fr d0 hw (fun hw => cg_k_fr hw (fun c27 s28 hw => fr_SB_set  d0 hw (fun h25 z26 d1 hw => cg_R_fr d1 hw (fun v29 hw => cg_d_fr hw (fun a30 hw => cg_c_fr d1 hw (fun hw => fr_Tree_giveBack  d1 hw (fun h32 z33 d2 hw => cg_c_fr d2 hw (fun hw => fr_Store_beginBatch  d2 hw (fun h35 z36 d3 hw => hK _ _ _ d3 hw))))))))))))
theorem fr_Store_length {g : hm_T} {dA : Nat → ClassId} {y0 : Nat} {rc : Nat} {rs : Nat} {K Kq : Int32 → hm_T → hz_T → Prop}  {h0 : hm_T} {z0 : hz_T} (d0 : dj g h0) (hw : w_Store_length dA y0 rc rs K h0 z0) (hK : ∀ (v0 : Int32) (h : hm_T) (z : hz_T), dj g h → K v0 h z → Kq v0 (hJ g h) z) : w_Store_length dA y0 rc rs Kq (hJ g h0) z0 := by
  unfold w_Store_length at hw ⊢
  exact cg_new_fr d0 hw (fun q21 c23 s24 h22 d1 hw => cg_c_fr d1 hw (fun hw => fr_Scribe_init  d1 hw (fun h26 z27 d2 hw => cg_R_fr d2 hw (fun v28 hw => cg_c_fr d2 hw (fun hw => fr_Scribe_write  d2 hw (fun h30 z31 d3 hw => cg_I_fr d3 hw (fun v32 hw => hK _ _ _ d3 hw)))))))
theorem fr_Store_written {g : hm_T} {dA : Nat → ClassId} {y0 : Nat} {y1 : Int32} {rc : Nat} {rs : Nat} {K Kq : Int32 → hm_T → hz_T → Prop}  {h0 : hm_T} {z0 : hz_T} (d0 : dj g h0) (hw : w_Store_written dA y0 y1 rc rs K h0 z0) (hK : ∀ (v0 : Int32) (h : hm_T) (z : hz_T), dj g h → K v0 h z → Kq v0 (hJ g h) z) : w_Store_written dA y0 y1 rc rs Kq (hJ g h0) z0 := by
  unfold w_Store_written at hw ⊢
  exact cg_new_fr d0 hw (fun q21 c23 s24 h22 d1 hw => cg_c_fr d1 hw (fun hw => fr_Scribe_init  d1 hw (fun h26 z27 d2 hw => cg_R_fr d2 hw (fun v28 hw => cg_c_fr d2 hw (fun hw => fr_Scribe_write  d2 hw (fun h30 z31 d3 hw => cg_I_fr d3 hw (fun v32 hw => hK _ _ _ d3 hw)))))))
theorem fr_Store_useBuffer {g : hm_T} {dA : Nat → ClassId} {y0 : Nat} {rc : Nat} {rs : Nat} {K Kq : Option Nat → hm_T → hz_T → Prop}  {h0 : hm_T} {z0 : hz_T} (d0 : dj g h0) (hw : w_Store_useBuffer dA y0 rc rs K h0 z0) (hK : ∀ (v0 : Option Nat) (h : hm_T) (z : hz_T), dj g h → K v0 h z → Kq v0 (hJ g h) z) : w_Store_useBuffer dA y0 rc rs Kq (hJ g h0) z0 := by
  unfold w_Store_useBuffer at hw ⊢
  exact cg_R_fr d0 hw (fun v21 hw => cg_d_fr hw (fun a22 hw => cg_c_fr d0 hw (fun hw => cg_k_fr hw (fun c26 s27 hw => fr_SB_str  d0 hw (fun v23 h24 z25 d1 hw => cg_R_fr d1 hw (fun v28 hw => cg_d_fr hw (fun a29 hw => cg_c_fr d1 hw (fun hw => cg_k_fr hw (fun c33 s34 hw => fr_SB_set  d1 hw (fun h31 z32 d2 hw => hK _ _ _ d2 hw))))))))))
theorem fr_Store_joined {g : hm_T} {dA : Nat → ClassId} {y0 : Nat} {y1 : Option Nat} {y2 : Option Nat} {rc : Nat} {rs : Nat} {K Kq : Option Nat → hm_T → hz_T → Prop}  {h0 : hm_T} {z0 : hz_T} (d0 : dj g h0) (hw : w_Store_joined dA y0 y1 y2 rc rs K h0 z0) (hK : ∀ (v0 : Option Nat) (h : hm_T) (z : hz_T), dj g h → K v0 h z → Kq v0 (hJ g h) z) : w_Store_joined dA y0 y1 y2 rc rs Kq (hJ g h0) z0 := by
  unfold w_Store_joined at hw ⊢
  exact cg_R_fr d0 hw (fun v21 hw => cg_d_fr hw (fun a22 hw => cg_c_fr d0 hw (fun hw => cg_k_fr hw (fun c26 s27 hw => fr_SB_set  d0 hw (fun h24 z25 d1 hw => cg_R_fr d1 hw (fun v28 hw => cg_d_fr hw (fun a29 hw => cg_c_fr d1 hw (fun hw => cg_k_fr hw (fun c33 s34 hw => fr_SB_apS  d1 hw (fun v30 h31 z32 d2 hw => cg_R_fr d2 hw (fun v35 hw => cg_d_fr hw (fun a36 hw => cg_c_fr d2 hw (fun hw => cg_k_fr hw (fun c40 s41 hw => fr_SB_apS  d2 hw (fun v37 h38 z39 d3 hw => cg_R_fr d3 hw (fun v42 hw => cg_d_fr hw (fun a43 hw => cg_c_fr d3 hw (fun hw => cg_k_fr hw (fun c47 s48 hw => fr_SB_str  d3 hw (fun v44 h45 z46 d4 hw => hK _ _ _ d4 hw))))))))))))))))))))
theorem fr_Attribute_init {g : hm_T} {dA : Nat → ClassId} {y0 : Nat} {y1 : Option Nat} {y2 : Option Nat} {rc : Nat} {rs : Nat} {K Kq : hm_T → hz_T → Prop}  {h0 : hm_T} {z0 : hz_T} (d0 : dj g h0) (hw : w_Attribute_init dA y0 y1 y2 rc rs K h0 z0) (hK : ∀ (h : hm_T) (z : hz_T), dj g h → K  h z → Kq  (hJ g h) z) : w_Attribute_init dA y0 y1 y2 rc rs Kq (hJ g h0) z0 := by
  unfold w_Attribute_init at hw ⊢
  exact cg_c_fr d0 hw (fun hw => cg_rm_fr hw (fun c24 s25 c26 s27 hw => fr_Record_init9  d0 hw (fun h22 z23 d1 hw => cg_p_fr d1 hw (fun h28 d2 hw => cg_p_fr d2 hw (fun h29 d3 hw => hK _ _ d3 hw)))))
theorem fr_MarkupReader_init {g : hm_T} {dA : Nat → ClassId} {y0 : Nat} {y1 : Option Nat} {y2 : Option Nat} {rc : Nat} {rs : Nat} {K Kq : hm_T → hz_T → Prop}  {h0 : hm_T} {z0 : hz_T} (d0 : dj g h0) (hw : w_MarkupReader_init dA y0 y1 y2 rc rs K h0 z0) (hK : ∀ (h : hm_T) (z : hz_T), dj g h → K  h z → Kq  (hJ g h) z) : w_MarkupReader_init dA y0 y1 y2 rc rs Kq (hJ g h0) z0 := by
  unfold w_MarkupReader_init at hw ⊢
  exact cg_c_fr d0 hw (fun hw => fr_TextReader_init6  d0 hw (fun h22 z23 d1 hw => cg_new_fr d1 hw (fun q24 c26 s27 h25 d2 hw => cg_c_fr d2 hw (fun hw => cg_rm_fr hw (fun c31 s32 c33 s34 hw => fr_ArrayList_init  d2 hw (fun h29 z30 d3 hw => cg_p_fr d3 hw (fun h35 d4 hw => cg_p_fr d4 hw (fun h36 d5 hw => cg_p_fr d5 hw (fun h37 d6 hw => hK _ _ d6 hw)))))))))
theorem fr_MarkupReader_skip_34 {g : hm_T} {dA : Nat → ClassId} {y0 : Nat} {K Kq : Int32 → hm_T → hz_T → Prop} {cr : Nat} {sr : Nat}  {h : hm_T} {z : hz_T} (d0 : dj g h) (hw : w_MarkupReader_skip_34 dA y0 K cr sr h z) (hK : ∀ (v0 : Int32) (h : hm_T) (z : hz_T), dj g h → K v0 h z → Kq v0 (hJ g h) z) : w_MarkupReader_skip_34 dA y0 Kq cr sr (hJ g h) z := by
  unfold w_MarkupReader_skip_34 at hw ⊢
  exact hK _ _ _ d0 hw
theorem fr_MarkupReader_skip {g : hm_T} {dA : Nat → ClassId} {y0 : Nat} {y1 : Option Nat} {rc : Nat} {rs : Nat} {K Kq : Int32 → hm_T → hz_T → Prop}  {h0 : hm_T} {z0 : hz_T} (d0 : dj g h0) (hw : w_MarkupReader_skip dA y0 y1 rc rs K h0 z0) (hK : ∀ (v0 : Int32) (h : hm_T) (z : hz_T), dj g h → K v0 h z → Kq v0 (hJ g h) z) : w_MarkupReader_skip dA y0 y1 rc rs Kq (hJ g h0) z0 := by
  unfold w_MarkupReader_skip at hw ⊢
  exact cg_I_fr d0 hw (fun v21 hw => cg_d_fr hw (fun a22 hw => jd_len_fr hw (fun v23 hw => cg_R_fr d0 hw (fun v24 hw => cg_d_fr hw (fun a25 hw => jd_len_fr hw (fun v26 hw => fr_ite hw (fun hw => fr_MarkupReader_skip_34  d0 hw hK) (fun hw => cg_R_fr d0 hw (fun v27 hw => cg_d_fr hw (fun a28 hw => jd_at_fr hw (fun v29 hw => fr_ite hw (fun hw => cg_R_fr d0 hw (fun v30 hw => cg_I_fr d0 hw (fun v31 hw => cg_d_fr hw (fun a32 hw => cg_k_fr hw (fun c36 s37 hw => fr_S_sub  d0 hw (fun v33 h34 z35 d1 hw => cg_d_fr hw (fun a38 hw => cg_d_fr hw (fun a39 hw => jd_eq_fr hw (fun v40 hw => fr_ite hw (fun hw => hK _ _ _ d1 hw) (fun hw => cg_p_fr d1 hw (fun h41 d2 hw => hK _ _ _ d2 hw))))))))))) (fun hw => fr_MarkupReader_skip_34  d0 hw hK)))))))))))
theorem fr_Node_init_29 {g : hm_T} {dA : Nat → ClassId} {y0 : Nat} {K Kq : hm_T → hz_T → Prop} {x3 : Option Nat} {w0 : Int32} {cr : Nat} {sr : Nat}  {h : hm_T} {z : hz_T} (d0 : dj g h) (hw : w_Node_init_29 dA y0 K x3 w0 cr sr h z) (hK : ∀ (h : hm_T) (z : hz_T), dj g h → K  h z → Kq  (hJ g h) z) : w_Node_init_29 dA y0 Kq x3 w0 cr sr (hJ g h) z := by
  unfold w_Node_init_29 at hw ⊢
  exact cg_p_fr d0 hw (fun h25 d1 hw => cg_p_fr d1 hw (fun h26 d2 hw => cg_new_fr d2 hw (fun q27 c29 s30 h28 d3 hw => cg_c_fr d3 hw (fun hw => cg_rm_fr hw (fun c34 s35 c36 s37 hw => fr_ArrayList_init  d3 hw (fun h32 z33 d4 hw => cg_p_fr d4 hw (fun h38 d5 hw => cg_p_fr d5 hw (fun h39 d6 hw => cg_p_fr d6 hw (fun h40 d7 hw => cg_lit_fr hw (fun a41 hw => cg_p_fr d7 hw (fun h42 d8 hw => cg_lit_fr hw (fun a43 hw => cg_p_fr d8 hw (fun h44 d9 hw => hK _ _ d9 hw)))))))))))))
theorem fr_Node_init {g : hm_T} {dA : Nat → ClassId} {y0 : Nat} {y1 : Int32} {y2 : Option Nat} {y3 : Option Nat} {rc : Nat} {rs : Nat} {K Kq : hm_T → hz_T → Prop}  {h0 : hm_T} {z0 : hz_T} (d0 : dj g h0) (hw : w_Node_init dA y0 y1 y2 y3 rc rs K h0 z0) (hK : ∀ (h : hm_T) (z : hz_T), dj g h → K  h z → Kq  (hJ g h) z) : w_Node_init dA y0 y1 y2 y3 rc rs Kq (hJ g h0) z0 := by
  unfold w_Node_init at hw ⊢
  exact cg_p_fr d0 hw (fun h21 d1 hw => cg_p_fr d1 hw (fun h22 d2 hw => fr_ite hw (fun hw => fr_Node_init_29  d2 hw hK) (fun hw => cg_d_fr hw (fun a23 hw => cg_I_fr d2 hw (fun v24 hw => fr_Node_init_29  d2 hw hK)))))
theorem fr_Node_labelOfChild {g : hm_T} {dA : Nat → ClassId} {y0 : Nat} {y1 : Int32} {rc : Nat} {rs : Nat} {K Kq : Option Nat → hm_T → hz_T → Prop}  {h0 : hm_T} {z0 : hz_T} (d0 : dj g h0) (hw : w_Node_labelOfChild dA y0 y1 rc rs K h0 z0) (hK : ∀ (v0 : Option Nat) (h : hm_T) (z : hz_T), dj g h → K v0 h z → Kq v0 (hJ g h) z) : w_Node_labelOfChild dA y0 y1 rc rs Kq (hJ g h0) z0 := by
  unfold w_Node_labelOfChild at hw ⊢
  exact cg_R_fr d0 hw (fun v21 hw => cg_R_fr d0 hw (fun v22 hw => cg_d_fr hw (fun a23 hw => cg_al_fr d0 hw (fun v24 hw => cg_rm_fr hw (fun c28 s29 c30 s31 hw => fr_Arrays_copyOfI  d0 hw (fun v25 h26 z27 d1 hw => cg_R_fr d1 hw (fun v32 hw => cg_d_fr hw (fun a33 hw => cg_al_fr d1 hw (fun v34 hw => cg_d_fr hw (fun a35 hw => cg_si_fr d1 hw (fun h36 d2 hw => hK _ _ _ d2 hw)))))))))))
theorem fr_Node_labelBetween_281 {g : hm_T} {dA : Nat → ClassId} {K Kq : Option Nat → hm_T → hz_T → Prop} {x5 : Option Nat} {x6 : Int32} {cr : Nat} {sr : Nat}  {h : hm_T} {z : hz_T} (d0 : dj g h) (hw : w_Node_labelBetween_281 dA K x5 x6 cr sr h z) (hK : ∀ (v0 : Option Nat) (h : hm_T) (z : hz_T), dj g h → K v0 h z → Kq v0 (hJ g h) z) : w_Node_labelBetween_281 dA Kq x5 x6 cr sr (hJ g h) z := by
  unfold w_Node_labelBetween_281 at hw ⊢
  exact cg_rm_fr hw (fun c41 s42 c43 s44 hw => fr_Arrays_copyOfI  d0 hw (fun v38 h39 z40 d1 hw => hK _ _ _ d1 hw))
theorem fr_Node_labelBetween_275 {g : hm_T} {dA : Nat → ClassId} {K Kq : Option Nat → hm_T → hz_T → Prop} {k48 k48q : Option Nat → Option Nat → Option Nat → Int32 → Int32 → Nat → Nat → hm_T → hz_T → Prop} {x3 : Option Nat} {x4 : Option Nat} {x5 : Option Nat} {x6 : Int32} {x7 : Int32} {cr : Nat} {sr : Nat}  {h : hm_T} {z : hz_T} (d0 : dj g h) (hw : w_Node_labelBetween_275 dA K k48 x3 x4 x5 x6 x7 cr sr h z) (hK : ∀ (v0 : Option Nat) (h : hm_T) (z : hz_T), dj g h → K v0 h z → Kq v0 (hJ g h) z) (hk48 : ∀ (v0 : Option Nat) (v1 : Option Nat) (v2 : Option Nat) (v3 : Int32) (v4 : Int32) (v5 : Nat) (v6 : Nat) (h : hm_T) (z : hz_T), dj g h → k48 v0 v1 v2 v3 v4 v5 v6 h z → k48q v0 v1 v2 v3 v4 v5 v6 (hJ g h) z) : w_Node_labelBetween_275 dA Kq k48q x3 x4 x5 x6 x7 cr sr (hJ g h) z := by
  unfold w_Node_labelBetween_275 at hw ⊢
  exact hk48 _ _ _ _ _ _ _ _ _ d0 hw
theorem fr_Node_labelBetween_175 {g : hm_T} {dA : Nat → ClassId} {K Kq : Option Nat → hm_T → hz_T → Prop} {k48 k48q : Option Nat → Option Nat → Option Nat → Int32 → Int32 → Nat → Nat → hm_T → hz_T → Prop} {x3 : Option Nat} {x4 : Option Nat} {x5 : Option Nat} {x6 : Int32} {x12 : Int32} {cr : Nat} {sr : Nat}  {h : hm_T} {z : hz_T} (d0 : dj g h) (hw : w_Node_labelBetween_175 dA K k48 x3 x4 x5 x6 x12 cr sr h z) (hK : ∀ (v0 : Option Nat) (h : hm_T) (z : hz_T), dj g h → K v0 h z → Kq v0 (hJ g h) z) (hk48 : ∀ (v0 : Option Nat) (v1 : Option Nat) (v2 : Option Nat) (v3 : Int32) (v4 : Int32) (v5 : Nat) (v6 : Nat) (h : hm_T) (z : hz_T), dj g h → k48 v0 v1 v2 v3 v4 v5 v6 h z → k48q v0 v1 v2 v3 v4 v5 v6 (hJ g h) z) : w_Node_labelBetween_175 dA Kq k48q x3 x4 x5 x6 x12 cr sr (hJ g h) z := by
  unfold w_Node_labelBetween_175 at hw ⊢
  exact cg_d_fr hw (fun a45 hw => cg_si_fr d0 hw (fun h46 d1 hw => fr_Node_labelBetween_275  d1 hw hK hk48))
theorem fr_Node_labelBetween_228 {g : hm_T} {dA : Nat → ClassId} {K Kq : Option Nat → hm_T → hz_T → Prop} {k48 k48q : Option Nat → Option Nat → Option Nat → Int32 → Int32 → Nat → Nat → hm_T → hz_T → Prop} {x3 : Option Nat} {x4 : Option Nat} {x5 : Option Nat} {x6 : Int32} {x7 : Int32} {x10 : Int32} {x11 : Int32} {cr : Nat} {sr : Nat}  {h : hm_T} {z : hz_T} (d0 : dj g h) (hw : w_Node_labelBetween_228 dA K k48 x3 x4 x5 x6 x7 x10 x11 cr sr h z) (hK : ∀ (v0 : Option Nat) (h : hm_T) (z : hz_T), dj g h → K v0 h z → Kq v0 (hJ g h) z) (hk48 : ∀ (v0 : Option Nat) (v1 : Option Nat) (v2 : Option Nat) (v3 : Int32) (v4 : Int32) (v5 : Nat) (v6 : Nat) (h : hm_T) (z : hz_T), dj g h → k48 v0 v1 v2 v3 v4 v5 v6 h z → k48q v0 v1 v2 v3 v4 v5 v6 (hJ g h) z) : w_Node_labelBetween_228 dA Kq k48q x3 x4 x5 x6 x7 x10 x11 cr sr (hJ g h) z := by
  unfold w_Node_labelBetween_228 at hw ⊢
  exact fr_ite hw (fun hw => cg_d_fr hw (fun a57 hw => cg_si_fr d0 hw (fun h58 d1 hw => fr_Node_labelBetween_275  d1 hw hK hk48))) (fun hw => fr_Node_isOdd  d0 hw (fun v50 h51 z52 d2 hw => fr_ite hw (fun hw => cg_d_fr hw (fun a55 hw => cg_si_fr d2 hw (fun h56 d3 hw => fr_Node_labelBetween_275  d3 hw hK hk48))) (fun hw => cg_d_fr hw (fun a53 hw => cg_si_fr d2 hw (fun h54 d4 hw => fr_Node_labelBetween_275  d4 hw hK hk48)))))
theorem fr_Node_labelBetween_156 {g : hm_T} {dA : Nat → ClassId} {K Kq : Option Nat → hm_T → hz_T → Prop} {k48 k48q : Option Nat → Option Nat → Option Nat → Int32 → Int32 → Nat → Nat → hm_T → hz_T → Prop} {x3 : Option Nat} {x4 : Option Nat} {x5 : Option Nat} {x6 : Int32} {x7 : Int32} {x8 : Int32} {x9 : Int32} {x10 : Int32} {x11 : Int32} {w0 : Int32} {cr : Nat} {sr : Nat}  {h : hm_T} {z : hz_T} (d0 : dj g h) (hw : w_Node_labelBetween_156 dA K k48 x3 x4 x5 x6 x7 x8 x9 x10 x11 w0 cr sr h z) (hK : ∀ (v0 : Option Nat) (h : hm_T) (z : hz_T), dj g h → K v0 h z → Kq v0 (hJ g h) z) (hk48 : ∀ (v0 : Option Nat) (v1 : Option Nat) (v2 : Option Nat) (v3 : Int32) (v4 : Int32) (v5 : Nat) (v6 : Nat) (h : hm_T) (z : hz_T), dj g h → k48 v0 v1 v2 v3 v4 v5 v6 h z → k48q v0 v1 v2 v3 v4 v5 v6 (hJ g h) z) : w_Node_labelBetween_156 dA Kq k48q x3 x4 x5 x6 x7 x8 x9 x10 x11 w0 cr sr (hJ g h) z := by
  unfold w_Node_labelBetween_156 at hw ⊢
  exact fr_ite hw (fun hw => fr_Node_labelBetween_175  d0 hw hK hk48) (fun hw => fr_ite hw (fun hw => fr_Node_labelBetween_175  d0 hw hK hk48) (fun hw => fr_ite hw (fun hw => fr_Node_isOdd  d0 hw (fun v47 h48 z49 d1 hw => fr_ite hw (fun hw => fr_Node_labelBetween_228  d1 hw hK hk48) (fun hw => fr_Node_isOdd  d1 hw (fun v59 h60 z61 d2 hw => fr_ite hw (fun hw => fr_Node_labelBetween_228  d2 hw hK hk48) (fun hw => cg_d_fr hw (fun a62 hw => cg_si_fr d2 hw (fun h63 d3 hw => cg_d_fr hw (fun a64 hw => cg_si_fr d3 hw (fun h65 d4 hw => fr_Node_labelBetween_275  d4 hw hK hk48))))))))) (fun hw => fr_Node_labelBetween_175  d0 hw hK hk48)))
theorem fr_Node_labelBetween_127 {g : hm_T} {dA : Nat → ClassId} {K Kq : Option Nat → hm_T → hz_T → Prop} {k48 k48q : Option Nat → Option Nat → Option Nat → Int32 → Int32 → Nat → Nat → hm_T → hz_T → Prop} {x3 : Option Nat} {x4 : Option Nat} {x5 : Option Nat} {x6 : Int32} {x7 : Int32} {x8 : Int32} {x9 : Int32} {x10 : Int32} {w0 : Int32} {cr : Nat} {sr : Nat}  {h : hm_T} {z : hz_T} (d0 : dj g h) (hw : w_Node_labelBetween_127 dA K k48 x3 x4 x5 x6 x7 x8 x9 x10 w0 cr sr h z) (hK : ∀ (v0 : Option Nat) (h : hm_T) (z : hz_T), dj g h → K v0 h z → Kq v0 (hJ g h) z) (hk48 : ∀ (v0 : Option Nat) (v1 : Option Nat) (v2 : Option Nat) (v3 : Int32) (v4 : Int32) (v5 : Nat) (v6 : Nat) (h : hm_T) (z : hz_T), dj g h → k48 v0 v1 v2 v3 v4 v5 v6 h z → k48q v0 v1 v2 v3 v4 v5 v6 (hJ g h) z) : w_Node_labelBetween_127 dA Kq k48q x3 x4 x5 x6 x7 x8 x9 x10 w0 cr sr (hJ g h) z := by
  unfold w_Node_labelBetween_127 at hw ⊢
  exact fr_ite hw (fun hw => fr_ite hw (fun hw => fr_Node_labelBetween_156  d0 hw hK hk48) (fun hw => fr_Node_oddBelow  d0 hw (fun v66 h67 z68 d1 hw => fr_Node_labelBetween_156  d1 hw hK hk48))) (fun hw => fr_Node_oddAbove  d0 hw (fun v69 h70 z71 d2 hw => fr_Node_labelBetween_156  d2 hw hK hk48))
theorem fr_Node_labelBetween_111 {g : hm_T} {dA : Nat → ClassId} {K Kq : Option Nat → hm_T → hz_T → Prop} {k48 k48q : Option Nat → Option Nat → Option Nat → Int32 → Int32 → Nat → Nat → hm_T → hz_T → Prop} {x3 : Option Nat} {x4 : Option Nat} {x5 : Option Nat} {x6 : Int32} {x7 : Int32} {x8 : Int32} {x9 : Int32} {w0 : Int32} {cr : Nat} {sr : Nat}  {h : hm_T} {z : hz_T} (d0 : dj g h) (hw : w_Node_labelBetween_111 dA K k48 x3 x4 x5 x6 x7 x8 x9 w0 cr sr h z) (hK : ∀ (v0 : Option Nat) (h : hm_T) (z : hz_T), dj g h → K v0 h z → Kq v0 (hJ g h) z) (hk48 : ∀ (v0 : Option Nat) (v1 : Option Nat) (v2 : Option Nat) (v3 : Int32) (v4 : Int32) (v5 : Nat) (v6 : Nat) (h : hm_T) (z : hz_T), dj g h → k48 v0 v1 v2 v3 v4 v5 v6 h z → k48q v0 v1 v2 v3 v4 v5 v6 (hJ g h) z) : w_Node_labelBetween_111 dA Kq k48q x3 x4 x5 x6 x7 x8 x9 w0 cr sr (hJ g h) z := by
  unfold w_Node_labelBetween_111 at hw ⊢
  exact fr_ite hw (fun hw => fr_Node_labelBetween_127  d0 hw hK hk48) (fun hw => cg_d_fr hw (fun a72 hw => cg_ai_fr d0 hw (fun v73 hw => fr_Node_labelBetween_127  d0 hw hK hk48)))
theorem fr_Node_labelBetween_96 {g : hm_T} {dA : Nat → ClassId} {K Kq : Option Nat → hm_T → hz_T → Prop} {k48 k48q : Option Nat → Option Nat → Option Nat → Int32 → Int32 → Nat → Nat → hm_T → hz_T → Prop} {x3 : Option Nat} {x4 : Option Nat} {x5 : Option Nat} {x6 : Int32} {x7 : Int32} {x8 : Int32} {w0 : Int32} {cr : Nat} {sr : Nat}  {h : hm_T} {z : hz_T} (d0 : dj g h) (hw : w_Node_labelBetween_96 dA K k48 x3 x4 x5 x6 x7 x8 w0 cr sr h z) (hK : ∀ (v0 : Option Nat) (h : hm_T) (z : hz_T), dj g h → K v0 h z → Kq v0 (hJ g h) z) (hk48 : ∀ (v0 : Option Nat) (v1 : Option Nat) (v2 : Option Nat) (v3 : Int32) (v4 : Int32) (v5 : Nat) (v6 : Nat) (h : hm_T) (z : hz_T), dj g h → k48 v0 v1 v2 v3 v4 v5 v6 h z → k48q v0 v1 v2 v3 v4 v5 v6 (hJ g h) z) : w_Node_labelBetween_96 dA Kq k48q x3 x4 x5 x6 x7 x8 w0 cr sr (hJ g h) z := by
  unfold w_Node_labelBetween_96 at hw ⊢
  exact fr_ite hw (fun hw => fr_Node_labelBetween_111  d0 hw hK hk48) (fun hw => cg_d_fr hw (fun a74 hw => cg_ai_fr d0 hw (fun v75 hw => fr_Node_labelBetween_111  d0 hw hK hk48)))
