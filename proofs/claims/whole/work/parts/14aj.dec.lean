def F_X12_copy_819 (rc725 : Int32 → Int32 → Int32 → Mm → Option (Mm)) (x1 : Int32) (x2 : Int32) (x3 : Int32) (σ : Mm) : Option (Mm) := (rc725 x1 x2 (x3 + 1) σ)
set_option maxRecDepth 20000 in
theorem zb_X12_copy_819 {S : Shp} {rc725 : Int32 → Int32 → Int32 → Mm → Option (Mm)} (hrc725 : ∀ {x1 : Int32} {x2 : Int32} {x3 : Int32} {σ : Mm} {r : Mm}, rc725 x1 x2 x3 σ = some r → Z m_X12_copy S (Qv r) 725 [(0, .ref (sL S 3 0 0)), (1, .int (x1)), (2, .int (x2)), (3, .int (x3))] [] σ) {x1 : Int32} {x2 : Int32} {x3 : Int32} {σ : Mm} {r : Mm} (h : F_X12_copy_819 rc725 x1 x2 x3 σ = some r) : Z m_X12_copy S (Qv r) 819 [(0, .ref (sL S 3 0 0)), (1, .int (x1)), (2, .int (x2)), (3, .int (x3))] [] σ := by
  unfold F_X12_copy_819 at h
  refine z_iinc (j := 3) (v := x3 + 1) (lv' := [(0, .ref (sL S 3 0 0)), (1, .int (x1)), (2, .int (x2)), (3, .int (x3 + 1))]) dX12_copy_819 rfl rfl (by decide) [1, 2, 3, 0] rfl ?_
  refine z_goto (tgt := 725) dX12_copy_822 (by decide) ?_
  exact hrc725 h
def F_X12_copy_797 (rc725 : Int32 → Int32 → Int32 → Mm → Option (Mm)) (x1 : Int32) (x2 : Int32) (x3 : Int32) (σ : Mm) : Option (Mm) := (if inb (((60 : Int32) * x1) + x3) 300 = true then (if inb (((60 : Int32) * x2) + x3) 300 = true then (F_X12_copy_819 rc725 x1 x2 x3 (setA σ 3 0 42 (upd (mA σ 3 0 42) (((60 : Int32) * x2) + x3).toNatClampNeg (mA σ 3 0 42 (((60 : Int32) * x1) + x3).toNatClampNeg)))) else none) else none)
set_option maxRecDepth 20000 in
theorem zb_X12_copy_797 {S : Shp} {rc725 : Int32 → Int32 → Int32 → Mm → Option (Mm)} (hrc725 : ∀ {x1 : Int32} {x2 : Int32} {x3 : Int32} {σ : Mm} {r : Mm}, rc725 x1 x2 x3 σ = some r → Z m_X12_copy S (Qv r) 725 [(0, .ref (sL S 3 0 0)), (1, .int (x1)), (2, .int (x2)), (3, .int (x3))] [] σ) {x1 : Int32} {x2 : Int32} {x3 : Int32} {σ : Mm} {r : Mm} (h : F_X12_copy_797 rc725 x1 x2 x3 σ = some r) : Z m_X12_copy S (Qv r) 797 [(0, .ref (sL S 3 0 0)), (1, .int (x1)), (2, .int (x2)), (3, .int (x3))] [] σ := by
  unfold F_X12_copy_797 at h
  obtain ⟨g67, h⟩ := gd h
  refine z_aload_n dX12_copy_797 rfl 0 rfl ?_
  refine gf_12_139 rfl dX12_copy_798 ?_
  refine z_bipush (v := 60) dX12_copy_801 (by decide) ?_
  refine z_iload_n dX12_copy_803 rfl 2 rfl ?_
  refine z_imul dX12_copy_804 ?_
  refine z_iload_n dX12_copy_805 rfl 3 rfl ?_
  refine z_iadd dX12_copy_806 ?_
  refine z_aload_n dX12_copy_807 rfl 0 rfl ?_
  refine gf_12_139 rfl dX12_copy_808 ?_
  refine z_bipush (v := 60) dX12_copy_811 (by decide) ?_
  refine z_iload_n dX12_copy_813 rfl 1 rfl ?_
  refine z_imul dX12_copy_814 ?_
  refine z_iload_n dX12_copy_815 rfl 3 rfl ?_
  refine z_iadd dX12_copy_816 ?_
  obtain ⟨g68, h⟩ := gd h
  refine ia_3_42 (inb_in g67) dX12_copy_817 ?_
  refine is_3_42 (inb_in g68) dX12_copy_818 ?_
  exact zb_X12_copy_819 hrc725 h
def F_X12_copy_775 (rc725 : Int32 → Int32 → Int32 → Mm → Option (Mm)) (x1 : Int32) (x2 : Int32) (x3 : Int32) (σ : Mm) : Option (Mm) := (if inb (((60 : Int32) * x1) + x3) 300 = true then (if inb (((60 : Int32) * x2) + x3) 300 = true then (F_X12_copy_797 rc725 x1 x2 x3 (setA σ 3 0 41 (upd (mA σ 3 0 41) (((60 : Int32) * x2) + x3).toNatClampNeg (mA σ 3 0 41 (((60 : Int32) * x1) + x3).toNatClampNeg)))) else none) else none)
set_option maxRecDepth 20000 in
theorem zb_X12_copy_775 {S : Shp} {rc725 : Int32 → Int32 → Int32 → Mm → Option (Mm)} (hrc725 : ∀ {x1 : Int32} {x2 : Int32} {x3 : Int32} {σ : Mm} {r : Mm}, rc725 x1 x2 x3 σ = some r → Z m_X12_copy S (Qv r) 725 [(0, .ref (sL S 3 0 0)), (1, .int (x1)), (2, .int (x2)), (3, .int (x3))] [] σ) {x1 : Int32} {x2 : Int32} {x3 : Int32} {σ : Mm} {r : Mm} (h : F_X12_copy_775 rc725 x1 x2 x3 σ = some r) : Z m_X12_copy S (Qv r) 775 [(0, .ref (sL S 3 0 0)), (1, .int (x1)), (2, .int (x2)), (3, .int (x3))] [] σ := by
  unfold F_X12_copy_775 at h
  obtain ⟨g63, h⟩ := gd h
  refine z_aload_n dX12_copy_775 rfl 0 rfl ?_
  refine gf_12_136 rfl dX12_copy_776 ?_
  refine z_bipush (v := 60) dX12_copy_779 (by decide) ?_
  refine z_iload_n dX12_copy_781 rfl 2 rfl ?_
  refine z_imul dX12_copy_782 ?_
  refine z_iload_n dX12_copy_783 rfl 3 rfl ?_
  refine z_iadd dX12_copy_784 ?_
  refine z_aload_n dX12_copy_785 rfl 0 rfl ?_
  refine gf_12_136 rfl dX12_copy_786 ?_
  refine z_bipush (v := 60) dX12_copy_789 (by decide) ?_
  refine z_iload_n dX12_copy_791 rfl 1 rfl ?_
  refine z_imul dX12_copy_792 ?_
  refine z_iload_n dX12_copy_793 rfl 3 rfl ?_
  refine z_iadd dX12_copy_794 ?_
  obtain ⟨g64, h⟩ := gd h
  refine ia_3_41 (inb_in g63) dX12_copy_795 ?_
  refine is_3_41 (inb_in g64) dX12_copy_796 ?_
  exact zb_X12_copy_797 hrc725 h
def F_X12_copy_753 (rc725 : Int32 → Int32 → Int32 → Mm → Option (Mm)) (x1 : Int32) (x2 : Int32) (x3 : Int32) (σ : Mm) : Option (Mm) := (if inb (((60 : Int32) * x1) + x3) 300 = true then (if inb (((60 : Int32) * x2) + x3) 300 = true then (F_X12_copy_775 rc725 x1 x2 x3 (setA σ 3 0 40 (upd (mA σ 3 0 40) (((60 : Int32) * x2) + x3).toNatClampNeg (mA σ 3 0 40 (((60 : Int32) * x1) + x3).toNatClampNeg)))) else none) else none)
set_option maxRecDepth 20000 in
theorem zb_X12_copy_753 {S : Shp} {rc725 : Int32 → Int32 → Int32 → Mm → Option (Mm)} (hrc725 : ∀ {x1 : Int32} {x2 : Int32} {x3 : Int32} {σ : Mm} {r : Mm}, rc725 x1 x2 x3 σ = some r → Z m_X12_copy S (Qv r) 725 [(0, .ref (sL S 3 0 0)), (1, .int (x1)), (2, .int (x2)), (3, .int (x3))] [] σ) {x1 : Int32} {x2 : Int32} {x3 : Int32} {σ : Mm} {r : Mm} (h : F_X12_copy_753 rc725 x1 x2 x3 σ = some r) : Z m_X12_copy S (Qv r) 753 [(0, .ref (sL S 3 0 0)), (1, .int (x1)), (2, .int (x2)), (3, .int (x3))] [] σ := by
  unfold F_X12_copy_753 at h
  obtain ⟨g59, h⟩ := gd h
  refine z_aload_n dX12_copy_753 rfl 0 rfl ?_
  refine gf_12_133 rfl dX12_copy_754 ?_
  refine z_bipush (v := 60) dX12_copy_757 (by decide) ?_
  refine z_iload_n dX12_copy_759 rfl 2 rfl ?_
  refine z_imul dX12_copy_760 ?_
  refine z_iload_n dX12_copy_761 rfl 3 rfl ?_
  refine z_iadd dX12_copy_762 ?_
  refine z_aload_n dX12_copy_763 rfl 0 rfl ?_
  refine gf_12_133 rfl dX12_copy_764 ?_
  refine z_bipush (v := 60) dX12_copy_767 (by decide) ?_
  refine z_iload_n dX12_copy_769 rfl 1 rfl ?_
  refine z_imul dX12_copy_770 ?_
  refine z_iload_n dX12_copy_771 rfl 3 rfl ?_
  refine z_iadd dX12_copy_772 ?_
  obtain ⟨g60, h⟩ := gd h
  refine ia_3_40 (inb_in g59) dX12_copy_773 ?_
  refine is_3_40 (inb_in g60) dX12_copy_774 ?_
  exact zb_X12_copy_775 hrc725 h
def B_X12_copy_725 (rc725 : Int32 → Int32 → Int32 → Mm → Option (Mm)) (x1 : Int32) (x2 : Int32) (x3 : Int32) (σ : Mm) : Option (Mm) := (if (60 : Int32) ≤ x3 then some (σ) else (if inb (((60 : Int32) * x1) + x3) 300 = true then (if inb (((60 : Int32) * x2) + x3) 300 = true then (F_X12_copy_753 rc725 x1 x2 x3 (setA σ 3 0 39 (upd (mA σ 3 0 39) (((60 : Int32) * x2) + x3).toNatClampNeg (mA σ 3 0 39 (((60 : Int32) * x1) + x3).toNatClampNeg)))) else none) else none))
set_option maxRecDepth 20000 in
theorem zB_X12_copy_725 {S : Shp} {rc725 : Int32 → Int32 → Int32 → Mm → Option (Mm)} (hrc725 : ∀ {x1 : Int32} {x2 : Int32} {x3 : Int32} {σ : Mm} {r : Mm}, rc725 x1 x2 x3 σ = some r → Z m_X12_copy S (Qv r) 725 [(0, .ref (sL S 3 0 0)), (1, .int (x1)), (2, .int (x2)), (3, .int (x3))] [] σ) {x1 : Int32} {x2 : Int32} {x3 : Int32} {σ : Mm} {r : Mm} (h : B_X12_copy_725 rc725 x1 x2 x3 σ = some r) : Z m_X12_copy S (Qv r) 725 [(0, .ref (sL S 3 0 0)), (1, .int (x1)), (2, .int (x2)), (3, .int (x3))] [] σ := by
  unfold B_X12_copy_725 at h
  refine z_iload_n dX12_copy_725 rfl 3 rfl ?_
  refine z_bipush (v := 60) dX12_copy_726 (by decide) ?_
  refine z_icmp_ge (tgt := 825) dX12_copy_728 (by decide) (fun q => ?_) (fun q => ?_)
  · have h := (if_pos q).symm.trans h
    cases h
    exact z_return dX12_copy_825 rfl ⟨rfl, rfl⟩
  · have h := (if_neg q).symm.trans h
    obtain ⟨g55, h⟩ := gd h
    refine z_aload_n dX12_copy_731 rfl 0 rfl ?_
    refine gf_12_130 rfl dX12_copy_732 ?_
    refine z_bipush (v := 60) dX12_copy_735 (by decide) ?_
    refine z_iload_n dX12_copy_737 rfl 2 rfl ?_
    refine z_imul dX12_copy_738 ?_
    refine z_iload_n dX12_copy_739 rfl 3 rfl ?_
    refine z_iadd dX12_copy_740 ?_
    refine z_aload_n dX12_copy_741 rfl 0 rfl ?_
    refine gf_12_130 rfl dX12_copy_742 ?_
    refine z_bipush (v := 60) dX12_copy_745 (by decide) ?_
    refine z_iload_n dX12_copy_747 rfl 1 rfl ?_
    refine z_imul dX12_copy_748 ?_
    refine z_iload_n dX12_copy_749 rfl 3 rfl ?_
    refine z_iadd dX12_copy_750 ?_
    obtain ⟨g56, h⟩ := gd h
    refine ia_3_39 (inb_in g55) dX12_copy_751 ?_
    refine is_3_39 (inb_in g56) dX12_copy_752 ?_
    exact zb_X12_copy_753 hrc725 h
def F_X12_copy_725 : Nat → Int32 → Int32 → Int32 → Mm → Option (Mm)
  | 0 => fun _ _ _ _ => none
  | n + 1 => B_X12_copy_725 (F_X12_copy_725 n)
theorem zl_X12_copy_725 {S : Shp} : ∀ (nn : Nat) {x1 : Int32} {x2 : Int32} {x3 : Int32} {σ : Mm} {r : Mm}, F_X12_copy_725 nn x1 x2 x3 σ = some r → Z m_X12_copy S (Qv r) 725 [(0, .ref (sL S 3 0 0)), (1, .int (x1)), (2, .int (x2)), (3, .int (x3))] [] σ := by
  intro nn
  induction nn with
  | zero => intro x1 x2 x3 σ r h; cases h
  | succ nn ih => intro x1 x2 x3 σ r h; exact zB_X12_copy_725 @ih h
def F_X12_copy_717 (rc566 : Int32 → Int32 → Int32 → Mm → Option (Mm)) (x1 : Int32) (x2 : Int32) (x3 : Int32) (σ : Mm) : Option (Mm) := (rc566 x1 x2 (x3 + 1) σ)
set_option maxRecDepth 20000 in
theorem zb_X12_copy_717 {S : Shp} {rc566 : Int32 → Int32 → Int32 → Mm → Option (Mm)} (hrc566 : ∀ {x1 : Int32} {x2 : Int32} {x3 : Int32} {σ : Mm} {r : Mm}, rc566 x1 x2 x3 σ = some r → Z m_X12_copy S (Qv r) 566 [(0, .ref (sL S 3 0 0)), (1, .int (x1)), (2, .int (x2)), (3, .int (x3))] [] σ) {x1 : Int32} {x2 : Int32} {x3 : Int32} {σ : Mm} {r : Mm} (h : F_X12_copy_717 rc566 x1 x2 x3 σ = some r) : Z m_X12_copy S (Qv r) 717 [(0, .ref (sL S 3 0 0)), (1, .int (x1)), (2, .int (x2)), (3, .int (x3))] [] σ := by
  unfold F_X12_copy_717 at h
  refine z_iinc (j := 3) (v := x3 + 1) (lv' := [(0, .ref (sL S 3 0 0)), (1, .int (x1)), (2, .int (x2)), (3, .int (x3 + 1))]) dX12_copy_717 rfl rfl (by decide) [1, 2, 3, 0] rfl ?_
  refine z_goto (tgt := 566) dX12_copy_720 (by decide) ?_
  exact hrc566 h
def F_X12_copy_693 (rc566 : Int32 → Int32 → Int32 → Mm → Option (Mm)) (x1 : Int32) (x2 : Int32) (x3 : Int32) (σ : Mm) : Option (Mm) := (if inb (((200 : Int32) * x1) + x3) 1000 = true then (if inb (((200 : Int32) * x2) + x3) 1000 = true then (F_X12_copy_717 rc566 x1 x2 x3 (setA σ 3 0 37 (upd (mA σ 3 0 37) (((200 : Int32) * x2) + x3).toNatClampNeg (mA σ 3 0 37 (((200 : Int32) * x1) + x3).toNatClampNeg)))) else none) else none)
set_option maxRecDepth 20000 in
theorem zb_X12_copy_693 {S : Shp} {rc566 : Int32 → Int32 → Int32 → Mm → Option (Mm)} (hrc566 : ∀ {x1 : Int32} {x2 : Int32} {x3 : Int32} {σ : Mm} {r : Mm}, rc566 x1 x2 x3 σ = some r → Z m_X12_copy S (Qv r) 566 [(0, .ref (sL S 3 0 0)), (1, .int (x1)), (2, .int (x2)), (3, .int (x3))] [] σ) {x1 : Int32} {x2 : Int32} {x3 : Int32} {σ : Mm} {r : Mm} (h : F_X12_copy_693 rc566 x1 x2 x3 σ = some r) : Z m_X12_copy S (Qv r) 693 [(0, .ref (sL S 3 0 0)), (1, .int (x1)), (2, .int (x2)), (3, .int (x3))] [] σ := by
  unfold F_X12_copy_693 at h
  obtain ⟨g71, h⟩ := gd h
  refine z_aload_n dX12_copy_693 rfl 0 rfl ?_
  refine gf_12_124 rfl dX12_copy_694 ?_
  refine z_sipush (v := 200) dX12_copy_697 (by decide) ?_
  refine z_iload_n dX12_copy_700 rfl 2 rfl ?_
  refine z_imul dX12_copy_701 ?_
  refine z_iload_n dX12_copy_702 rfl 3 rfl ?_
  refine z_iadd dX12_copy_703 ?_
  refine z_aload_n dX12_copy_704 rfl 0 rfl ?_
  refine gf_12_124 rfl dX12_copy_705 ?_
  refine z_sipush (v := 200) dX12_copy_708 (by decide) ?_
  refine z_iload_n dX12_copy_711 rfl 1 rfl ?_
  refine z_imul dX12_copy_712 ?_
  refine z_iload_n dX12_copy_713 rfl 3 rfl ?_
  refine z_iadd dX12_copy_714 ?_
  obtain ⟨g72, h⟩ := gd h
  refine ia_3_37 (inb_in g71) dX12_copy_715 ?_
  refine is_3_37 (inb_in g72) dX12_copy_716 ?_
  exact zb_X12_copy_717 hrc566 h
def F_X12_copy_669 (rc566 : Int32 → Int32 → Int32 → Mm → Option (Mm)) (x1 : Int32) (x2 : Int32) (x3 : Int32) (σ : Mm) : Option (Mm) := (if inb (((200 : Int32) * x1) + x3) 1000 = true then (if inb (((200 : Int32) * x2) + x3) 1000 = true then (F_X12_copy_693 rc566 x1 x2 x3 (setA σ 3 0 36 (upd (mA σ 3 0 36) (((200 : Int32) * x2) + x3).toNatClampNeg (mA σ 3 0 36 (((200 : Int32) * x1) + x3).toNatClampNeg)))) else none) else none)
set_option maxRecDepth 20000 in
theorem zb_X12_copy_669 {S : Shp} {rc566 : Int32 → Int32 → Int32 → Mm → Option (Mm)} (hrc566 : ∀ {x1 : Int32} {x2 : Int32} {x3 : Int32} {σ : Mm} {r : Mm}, rc566 x1 x2 x3 σ = some r → Z m_X12_copy S (Qv r) 566 [(0, .ref (sL S 3 0 0)), (1, .int (x1)), (2, .int (x2)), (3, .int (x3))] [] σ) {x1 : Int32} {x2 : Int32} {x3 : Int32} {σ : Mm} {r : Mm} (h : F_X12_copy_669 rc566 x1 x2 x3 σ = some r) : Z m_X12_copy S (Qv r) 669 [(0, .ref (sL S 3 0 0)), (1, .int (x1)), (2, .int (x2)), (3, .int (x3))] [] σ := by
  unfold F_X12_copy_669 at h
  obtain ⟨g69, h⟩ := gd h
  refine z_aload_n dX12_copy_669 rfl 0 rfl ?_
  refine gf_12_121 rfl dX12_copy_670 ?_
  refine z_sipush (v := 200) dX12_copy_673 (by decide) ?_
  refine z_iload_n dX12_copy_676 rfl 2 rfl ?_
  refine z_imul dX12_copy_677 ?_
  refine z_iload_n dX12_copy_678 rfl 3 rfl ?_
  refine z_iadd dX12_copy_679 ?_
  refine z_aload_n dX12_copy_680 rfl 0 rfl ?_
  refine gf_12_121 rfl dX12_copy_681 ?_
  refine z_sipush (v := 200) dX12_copy_684 (by decide) ?_
  refine z_iload_n dX12_copy_687 rfl 1 rfl ?_
  refine z_imul dX12_copy_688 ?_
  refine z_iload_n dX12_copy_689 rfl 3 rfl ?_
  refine z_iadd dX12_copy_690 ?_
  obtain ⟨g70, h⟩ := gd h
  refine ia_3_36 (inb_in g69) dX12_copy_691 ?_
  refine is_3_36 (inb_in g70) dX12_copy_692 ?_
  exact zb_X12_copy_693 hrc566 h
def F_X12_copy_645 (rc566 : Int32 → Int32 → Int32 → Mm → Option (Mm)) (x1 : Int32) (x2 : Int32) (x3 : Int32) (σ : Mm) : Option (Mm) := (if inb (((200 : Int32) * x1) + x3) 1000 = true then (if inb (((200 : Int32) * x2) + x3) 1000 = true then (F_X12_copy_669 rc566 x1 x2 x3 (setA σ 3 0 35 (upd (mA σ 3 0 35) (((200 : Int32) * x2) + x3).toNatClampNeg (mA σ 3 0 35 (((200 : Int32) * x1) + x3).toNatClampNeg)))) else none) else none)
set_option maxRecDepth 20000 in
theorem zb_X12_copy_645 {S : Shp} {rc566 : Int32 → Int32 → Int32 → Mm → Option (Mm)} (hrc566 : ∀ {x1 : Int32} {x2 : Int32} {x3 : Int32} {σ : Mm} {r : Mm}, rc566 x1 x2 x3 σ = some r → Z m_X12_copy S (Qv r) 566 [(0, .ref (sL S 3 0 0)), (1, .int (x1)), (2, .int (x2)), (3, .int (x3))] [] σ) {x1 : Int32} {x2 : Int32} {x3 : Int32} {σ : Mm} {r : Mm} (h : F_X12_copy_645 rc566 x1 x2 x3 σ = some r) : Z m_X12_copy S (Qv r) 645 [(0, .ref (sL S 3 0 0)), (1, .int (x1)), (2, .int (x2)), (3, .int (x3))] [] σ := by
  unfold F_X12_copy_645 at h
  obtain ⟨g65, h⟩ := gd h
  refine z_aload_n dX12_copy_645 rfl 0 rfl ?_
  refine gf_12_118 rfl dX12_copy_646 ?_
  refine z_sipush (v := 200) dX12_copy_649 (by decide) ?_
  refine z_iload_n dX12_copy_652 rfl 2 rfl ?_
  refine z_imul dX12_copy_653 ?_
  refine z_iload_n dX12_copy_654 rfl 3 rfl ?_
  refine z_iadd dX12_copy_655 ?_
  refine z_aload_n dX12_copy_656 rfl 0 rfl ?_
  refine gf_12_118 rfl dX12_copy_657 ?_
  refine z_sipush (v := 200) dX12_copy_660 (by decide) ?_
  refine z_iload_n dX12_copy_663 rfl 1 rfl ?_
  refine z_imul dX12_copy_664 ?_
  refine z_iload_n dX12_copy_665 rfl 3 rfl ?_
  refine z_iadd dX12_copy_666 ?_
  obtain ⟨g66, h⟩ := gd h
  refine ia_3_35 (inb_in g65) dX12_copy_667 ?_
  refine is_3_35 (inb_in g66) dX12_copy_668 ?_
  exact zb_X12_copy_669 hrc566 h
def F_X12_copy_621 (rc566 : Int32 → Int32 → Int32 → Mm → Option (Mm)) (x1 : Int32) (x2 : Int32) (x3 : Int32) (σ : Mm) : Option (Mm) := (if inb (((200 : Int32) * x1) + x3) 1000 = true then (if inb (((200 : Int32) * x2) + x3) 1000 = true then (F_X12_copy_645 rc566 x1 x2 x3 (setA σ 3 0 34 (upd (mA σ 3 0 34) (((200 : Int32) * x2) + x3).toNatClampNeg (mA σ 3 0 34 (((200 : Int32) * x1) + x3).toNatClampNeg)))) else none) else none)
set_option maxRecDepth 20000 in
theorem zb_X12_copy_621 {S : Shp} {rc566 : Int32 → Int32 → Int32 → Mm → Option (Mm)} (hrc566 : ∀ {x1 : Int32} {x2 : Int32} {x3 : Int32} {σ : Mm} {r : Mm}, rc566 x1 x2 x3 σ = some r → Z m_X12_copy S (Qv r) 566 [(0, .ref (sL S 3 0 0)), (1, .int (x1)), (2, .int (x2)), (3, .int (x3))] [] σ) {x1 : Int32} {x2 : Int32} {x3 : Int32} {σ : Mm} {r : Mm} (h : F_X12_copy_621 rc566 x1 x2 x3 σ = some r) : Z m_X12_copy S (Qv r) 621 [(0, .ref (sL S 3 0 0)), (1, .int (x1)), (2, .int (x2)), (3, .int (x3))] [] σ := by
  unfold F_X12_copy_621 at h
  obtain ⟨g61, h⟩ := gd h
  refine z_aload_n dX12_copy_621 rfl 0 rfl ?_
  refine gf_12_115 rfl dX12_copy_622 ?_
  refine z_sipush (v := 200) dX12_copy_625 (by decide) ?_
  refine z_iload_n dX12_copy_628 rfl 2 rfl ?_
  refine z_imul dX12_copy_629 ?_
  refine z_iload_n dX12_copy_630 rfl 3 rfl ?_
  refine z_iadd dX12_copy_631 ?_
  refine z_aload_n dX12_copy_632 rfl 0 rfl ?_
  refine gf_12_115 rfl dX12_copy_633 ?_
  refine z_sipush (v := 200) dX12_copy_636 (by decide) ?_
  refine z_iload_n dX12_copy_639 rfl 1 rfl ?_
  refine z_imul dX12_copy_640 ?_
  refine z_iload_n dX12_copy_641 rfl 3 rfl ?_
  refine z_iadd dX12_copy_642 ?_
  obtain ⟨g62, h⟩ := gd h
  refine ia_3_34 (inb_in g61) dX12_copy_643 ?_
  refine is_3_34 (inb_in g62) dX12_copy_644 ?_
  exact zb_X12_copy_645 hrc566 h
def F_X12_copy_597 (rc566 : Int32 → Int32 → Int32 → Mm → Option (Mm)) (x1 : Int32) (x2 : Int32) (x3 : Int32) (σ : Mm) : Option (Mm) := (if inb (((200 : Int32) * x1) + x3) 1000 = true then (if inb (((200 : Int32) * x2) + x3) 1000 = true then (F_X12_copy_621 rc566 x1 x2 x3 (setA σ 3 0 33 (upd (mA σ 3 0 33) (((200 : Int32) * x2) + x3).toNatClampNeg (mA σ 3 0 33 (((200 : Int32) * x1) + x3).toNatClampNeg)))) else none) else none)
set_option maxRecDepth 20000 in
theorem zb_X12_copy_597 {S : Shp} {rc566 : Int32 → Int32 → Int32 → Mm → Option (Mm)} (hrc566 : ∀ {x1 : Int32} {x2 : Int32} {x3 : Int32} {σ : Mm} {r : Mm}, rc566 x1 x2 x3 σ = some r → Z m_X12_copy S (Qv r) 566 [(0, .ref (sL S 3 0 0)), (1, .int (x1)), (2, .int (x2)), (3, .int (x3))] [] σ) {x1 : Int32} {x2 : Int32} {x3 : Int32} {σ : Mm} {r : Mm} (h : F_X12_copy_597 rc566 x1 x2 x3 σ = some r) : Z m_X12_copy S (Qv r) 597 [(0, .ref (sL S 3 0 0)), (1, .int (x1)), (2, .int (x2)), (3, .int (x3))] [] σ := by
  unfold F_X12_copy_597 at h
  obtain ⟨g57, h⟩ := gd h
  refine z_aload_n dX12_copy_597 rfl 0 rfl ?_
  refine gf_12_112 rfl dX12_copy_598 ?_
  refine z_sipush (v := 200) dX12_copy_601 (by decide) ?_
  refine z_iload_n dX12_copy_604 rfl 2 rfl ?_
  refine z_imul dX12_copy_605 ?_
  refine z_iload_n dX12_copy_606 rfl 3 rfl ?_
  refine z_iadd dX12_copy_607 ?_
  refine z_aload_n dX12_copy_608 rfl 0 rfl ?_
  refine gf_12_112 rfl dX12_copy_609 ?_
  refine z_sipush (v := 200) dX12_copy_612 (by decide) ?_
  refine z_iload_n dX12_copy_615 rfl 1 rfl ?_
  refine z_imul dX12_copy_616 ?_
  refine z_iload_n dX12_copy_617 rfl 3 rfl ?_
  refine z_iadd dX12_copy_618 ?_
  obtain ⟨g58, h⟩ := gd h
  refine ia_3_33 (inb_in g57) dX12_copy_619 ?_
  refine is_3_33 (inb_in g58) dX12_copy_620 ?_
  exact zb_X12_copy_621 hrc566 h
def B_X12_copy_566 (rc566 : Int32 → Int32 → Int32 → Mm → Option (Mm)) (x1 : Int32) (x2 : Int32) (x3 : Int32) (σ : Mm) : Option (Mm) := (if (200 : Int32) ≤ x3 then (F_X12_copy_725 FU x1 x2 0 σ) else (if inb (((200 : Int32) * x1) + x3) 1000 = true then (if inb (((200 : Int32) * x2) + x3) 1000 = true then (F_X12_copy_597 rc566 x1 x2 x3 (setA σ 3 0 32 (upd (mA σ 3 0 32) (((200 : Int32) * x2) + x3).toNatClampNeg (vp_nar .boolean (mA σ 3 0 32 (((200 : Int32) * x1) + x3).toNatClampNeg))))) else none) else none))
set_option maxRecDepth 20000 in
theorem zB_X12_copy_566 {S : Shp} {rc566 : Int32 → Int32 → Int32 → Mm → Option (Mm)} (hrc566 : ∀ {x1 : Int32} {x2 : Int32} {x3 : Int32} {σ : Mm} {r : Mm}, rc566 x1 x2 x3 σ = some r → Z m_X12_copy S (Qv r) 566 [(0, .ref (sL S 3 0 0)), (1, .int (x1)), (2, .int (x2)), (3, .int (x3))] [] σ) {x1 : Int32} {x2 : Int32} {x3 : Int32} {σ : Mm} {r : Mm} (h : B_X12_copy_566 rc566 x1 x2 x3 σ = some r) : Z m_X12_copy S (Qv r) 566 [(0, .ref (sL S 3 0 0)), (1, .int (x1)), (2, .int (x2)), (3, .int (x3))] [] σ := by
  unfold B_X12_copy_566 at h
  refine z_iload_n dX12_copy_566 rfl 3 rfl ?_
  refine z_sipush (v := 200) dX12_copy_567 (by decide) ?_
  refine z_icmp_ge (tgt := 723) dX12_copy_570 (by decide) (fun q => ?_) (fun q => ?_)
  · have h := (if_pos q).symm.trans h
    refine z_iconst (v := 0) dX12_copy_723 (by decide) ?_
    refine z_istore_n (lv' := [(0, .ref (sL S 3 0 0)), (1, .int (x1)), (2, .int (x2)), (3, .int (0))]) dX12_copy_724 rfl (by decide) [1, 2, 3, 0] rfl ?_
    exact zl_X12_copy_725 FU h
  · have h := (if_neg q).symm.trans h
    obtain ⟨g51, h⟩ := gd h
    refine z_aload_n dX12_copy_573 rfl 0 rfl ?_
    refine gf_12_109 rfl dX12_copy_574 ?_
    refine z_sipush (v := 200) dX12_copy_577 (by decide) ?_
    refine z_iload_n dX12_copy_580 rfl 2 rfl ?_
    refine z_imul dX12_copy_581 ?_
    refine z_iload_n dX12_copy_582 rfl 3 rfl ?_
    refine z_iadd dX12_copy_583 ?_
    refine z_aload_n dX12_copy_584 rfl 0 rfl ?_
    refine gf_12_109 rfl dX12_copy_585 ?_
    refine z_sipush (v := 200) dX12_copy_588 (by decide) ?_
    refine z_iload_n dX12_copy_591 rfl 1 rfl ?_
    refine z_imul dX12_copy_592 ?_
    refine z_iload_n dX12_copy_593 rfl 3 rfl ?_
    refine z_iadd dX12_copy_594 ?_
    obtain ⟨g52, h⟩ := gd h
    refine ia_3_32 (inb_in g51) dX12_copy_595 ?_
    refine is_3_32 (inb_in g52) dX12_copy_596 ?_
    exact zb_X12_copy_597 hrc566 h
def F_X12_copy_566 : Nat → Int32 → Int32 → Int32 → Mm → Option (Mm)
  | 0 => fun _ _ _ _ => none
  | n + 1 => B_X12_copy_566 (F_X12_copy_566 n)
theorem zl_X12_copy_566 {S : Shp} : ∀ (nn : Nat) {x1 : Int32} {x2 : Int32} {x3 : Int32} {σ : Mm} {r : Mm}, F_X12_copy_566 nn x1 x2 x3 σ = some r → Z m_X12_copy S (Qv r) 566 [(0, .ref (sL S 3 0 0)), (1, .int (x1)), (2, .int (x2)), (3, .int (x3))] [] σ := by
  intro nn
  induction nn with
  | zero => intro x1 x2 x3 σ r h; cases h
  | succ nn ih => intro x1 x2 x3 σ r h; exact zB_X12_copy_566 @ih h
def F_X12_copy_558 (rc503 : Int32 → Int32 → Int32 → Mm → Option (Mm)) (x1 : Int32) (x2 : Int32) (x3 : Int32) (σ : Mm) : Option (Mm) := (rc503 x1 x2 (x3 + 1) σ)
set_option maxRecDepth 20000 in
theorem zb_X12_copy_558 {S : Shp} {rc503 : Int32 → Int32 → Int32 → Mm → Option (Mm)} (hrc503 : ∀ {x1 : Int32} {x2 : Int32} {x3 : Int32} {σ : Mm} {r : Mm}, rc503 x1 x2 x3 σ = some r → Z m_X12_copy S (Qv r) 503 [(0, .ref (sL S 3 0 0)), (1, .int (x1)), (2, .int (x2)), (3, .int (x3))] [] σ) {x1 : Int32} {x2 : Int32} {x3 : Int32} {σ : Mm} {r : Mm} (h : F_X12_copy_558 rc503 x1 x2 x3 σ = some r) : Z m_X12_copy S (Qv r) 558 [(0, .ref (sL S 3 0 0)), (1, .int (x1)), (2, .int (x2)), (3, .int (x3))] [] σ := by
  unfold F_X12_copy_558 at h
  refine z_iinc (j := 3) (v := x3 + 1) (lv' := [(0, .ref (sL S 3 0 0)), (1, .int (x1)), (2, .int (x2)), (3, .int (x3 + 1))]) dX12_copy_558 rfl rfl (by decide) [1, 2, 3, 0] rfl ?_
  refine z_goto (tgt := 503) dX12_copy_561 (by decide) ?_
  exact hrc503 h
def F_X12_copy_534 (rc503 : Int32 → Int32 → Int32 → Mm → Option (Mm)) (x1 : Int32) (x2 : Int32) (x3 : Int32) (σ : Mm) : Option (Mm) := (if inb (((500 : Int32) * x1) + x3) 2500 = true then (if inb (((500 : Int32) * x2) + x3) 2500 = true then (F_X12_copy_558 rc503 x1 x2 x3 (setA σ 3 0 30 (upd (mA σ 3 0 30) (((500 : Int32) * x2) + x3).toNatClampNeg (mA σ 3 0 30 (((500 : Int32) * x1) + x3).toNatClampNeg)))) else none) else none)
set_option maxRecDepth 20000 in
theorem zb_X12_copy_534 {S : Shp} {rc503 : Int32 → Int32 → Int32 → Mm → Option (Mm)} (hrc503 : ∀ {x1 : Int32} {x2 : Int32} {x3 : Int32} {σ : Mm} {r : Mm}, rc503 x1 x2 x3 σ = some r → Z m_X12_copy S (Qv r) 503 [(0, .ref (sL S 3 0 0)), (1, .int (x1)), (2, .int (x2)), (3, .int (x3))] [] σ) {x1 : Int32} {x2 : Int32} {x3 : Int32} {σ : Mm} {r : Mm} (h : F_X12_copy_534 rc503 x1 x2 x3 σ = some r) : Z m_X12_copy S (Qv r) 534 [(0, .ref (sL S 3 0 0)), (1, .int (x1)), (2, .int (x2)), (3, .int (x3))] [] σ := by
  unfold F_X12_copy_534 at h
  obtain ⟨g53, h⟩ := gd h
  refine z_aload_n dX12_copy_534 rfl 0 rfl ?_
  refine gf_12_103 rfl dX12_copy_535 ?_
  refine z_sipush (v := 500) dX12_copy_538 (by decide) ?_
  refine z_iload_n dX12_copy_541 rfl 2 rfl ?_
  refine z_imul dX12_copy_542 ?_
  refine z_iload_n dX12_copy_543 rfl 3 rfl ?_
  refine z_iadd dX12_copy_544 ?_
  refine z_aload_n dX12_copy_545 rfl 0 rfl ?_
  refine gf_12_103 rfl dX12_copy_546 ?_
  refine z_sipush (v := 500) dX12_copy_549 (by decide) ?_
  refine z_iload_n dX12_copy_552 rfl 1 rfl ?_
  refine z_imul dX12_copy_553 ?_
  refine z_iload_n dX12_copy_554 rfl 3 rfl ?_
  refine z_iadd dX12_copy_555 ?_
  obtain ⟨g54, h⟩ := gd h
  refine ia_3_30 (inb_in g53) dX12_copy_556 ?_
  refine is_3_30 (inb_in g54) dX12_copy_557 ?_
  exact zb_X12_copy_558 hrc503 h
def B_X12_copy_503 (rc503 : Int32 → Int32 → Int32 → Mm → Option (Mm)) (x1 : Int32) (x2 : Int32) (x3 : Int32) (σ : Mm) : Option (Mm) := (if (500 : Int32) ≤ x3 then (F_X12_copy_566 FU x1 x2 0 σ) else (if inb (((500 : Int32) * x1) + x3) 2500 = true then (if inb (((500 : Int32) * x2) + x3) 2500 = true then (F_X12_copy_534 rc503 x1 x2 x3 (setA σ 3 0 29 (upd (mA σ 3 0 29) (((500 : Int32) * x2) + x3).toNatClampNeg (mA σ 3 0 29 (((500 : Int32) * x1) + x3).toNatClampNeg)))) else none) else none))
set_option maxRecDepth 20000 in
theorem zB_X12_copy_503 {S : Shp} {rc503 : Int32 → Int32 → Int32 → Mm → Option (Mm)} (hrc503 : ∀ {x1 : Int32} {x2 : Int32} {x3 : Int32} {σ : Mm} {r : Mm}, rc503 x1 x2 x3 σ = some r → Z m_X12_copy S (Qv r) 503 [(0, .ref (sL S 3 0 0)), (1, .int (x1)), (2, .int (x2)), (3, .int (x3))] [] σ) {x1 : Int32} {x2 : Int32} {x3 : Int32} {σ : Mm} {r : Mm} (h : B_X12_copy_503 rc503 x1 x2 x3 σ = some r) : Z m_X12_copy S (Qv r) 503 [(0, .ref (sL S 3 0 0)), (1, .int (x1)), (2, .int (x2)), (3, .int (x3))] [] σ := by
  unfold B_X12_copy_503 at h
  refine z_iload_n dX12_copy_503 rfl 3 rfl ?_
  refine z_sipush (v := 500) dX12_copy_504 (by decide) ?_
  refine z_icmp_ge (tgt := 564) dX12_copy_507 (by decide) (fun q => ?_) (fun q => ?_)
  · have h := (if_pos q).symm.trans h
    refine z_iconst (v := 0) dX12_copy_564 (by decide) ?_
    refine z_istore_n (lv' := [(0, .ref (sL S 3 0 0)), (1, .int (x1)), (2, .int (x2)), (3, .int (0))]) dX12_copy_565 rfl (by decide) [1, 2, 3, 0] rfl ?_
    exact zl_X12_copy_566 FU h
  · have h := (if_neg q).symm.trans h
    obtain ⟨g45, h⟩ := gd h
    refine z_aload_n dX12_copy_510 rfl 0 rfl ?_
    refine gf_12_100 rfl dX12_copy_511 ?_
    refine z_sipush (v := 500) dX12_copy_514 (by decide) ?_
    refine z_iload_n dX12_copy_517 rfl 2 rfl ?_
    refine z_imul dX12_copy_518 ?_
    refine z_iload_n dX12_copy_519 rfl 3 rfl ?_
    refine z_iadd dX12_copy_520 ?_
    refine z_aload_n dX12_copy_521 rfl 0 rfl ?_
    refine gf_12_100 rfl dX12_copy_522 ?_
    refine z_sipush (v := 500) dX12_copy_525 (by decide) ?_
    refine z_iload_n dX12_copy_528 rfl 1 rfl ?_
    refine z_imul dX12_copy_529 ?_
    refine z_iload_n dX12_copy_530 rfl 3 rfl ?_
    refine z_iadd dX12_copy_531 ?_
    obtain ⟨g46, h⟩ := gd h
    refine ia_3_29 (inb_in g45) dX12_copy_532 ?_
    refine is_3_29 (inb_in g46) dX12_copy_533 ?_
    exact zb_X12_copy_534 hrc503 h
def F_X12_copy_503 : Nat → Int32 → Int32 → Int32 → Mm → Option (Mm)
  | 0 => fun _ _ _ _ => none
  | n + 1 => B_X12_copy_503 (F_X12_copy_503 n)
theorem zl_X12_copy_503 {S : Shp} : ∀ (nn : Nat) {x1 : Int32} {x2 : Int32} {x3 : Int32} {σ : Mm} {r : Mm}, F_X12_copy_503 nn x1 x2 x3 σ = some r → Z m_X12_copy S (Qv r) 503 [(0, .ref (sL S 3 0 0)), (1, .int (x1)), (2, .int (x2)), (3, .int (x3))] [] σ := by
  intro nn
  induction nn with
  | zero => intro x1 x2 x3 σ r h; cases h
  | succ nn ih => intro x1 x2 x3 σ r h; exact zB_X12_copy_503 @ih h
def F_X12_copy_495 (rc445 : Int32 → Int32 → Int32 → Mm → Option (Mm)) (x1 : Int32) (x2 : Int32) (x3 : Int32) (σ : Mm) : Option (Mm) := (rc445 x1 x2 (x3 + 1) σ)
set_option maxRecDepth 20000 in
theorem zb_X12_copy_495 {S : Shp} {rc445 : Int32 → Int32 → Int32 → Mm → Option (Mm)} (hrc445 : ∀ {x1 : Int32} {x2 : Int32} {x3 : Int32} {σ : Mm} {r : Mm}, rc445 x1 x2 x3 σ = some r → Z m_X12_copy S (Qv r) 445 [(0, .ref (sL S 3 0 0)), (1, .int (x1)), (2, .int (x2)), (3, .int (x3))] [] σ) {x1 : Int32} {x2 : Int32} {x3 : Int32} {σ : Mm} {r : Mm} (h : F_X12_copy_495 rc445 x1 x2 x3 σ = some r) : Z m_X12_copy S (Qv r) 495 [(0, .ref (sL S 3 0 0)), (1, .int (x1)), (2, .int (x2)), (3, .int (x3))] [] σ := by
  unfold F_X12_copy_495 at h
  refine z_iinc (j := 3) (v := x3 + 1) (lv' := [(0, .ref (sL S 3 0 0)), (1, .int (x1)), (2, .int (x2)), (3, .int (x3 + 1))]) dX12_copy_495 rfl rfl (by decide) [1, 2, 3, 0] rfl ?_
  refine z_goto (tgt := 445) dX12_copy_498 (by decide) ?_
  exact hrc445 h
def F_X12_copy_473 (rc445 : Int32 → Int32 → Int32 → Mm → Option (Mm)) (x1 : Int32) (x2 : Int32) (x3 : Int32) (σ : Mm) : Option (Mm) := (if inb (((6 : Int32) * x1) + x3) 30 = true then (if inb (((6 : Int32) * x2) + x3) 30 = true then (F_X12_copy_495 rc445 x1 x2 x3 (setA σ 3 0 27 (upd (mA σ 3 0 27) (((6 : Int32) * x2) + x3).toNatClampNeg (mA σ 3 0 27 (((6 : Int32) * x1) + x3).toNatClampNeg)))) else none) else none)
set_option maxRecDepth 20000 in
theorem zb_X12_copy_473 {S : Shp} {rc445 : Int32 → Int32 → Int32 → Mm → Option (Mm)} (hrc445 : ∀ {x1 : Int32} {x2 : Int32} {x3 : Int32} {σ : Mm} {r : Mm}, rc445 x1 x2 x3 σ = some r → Z m_X12_copy S (Qv r) 445 [(0, .ref (sL S 3 0 0)), (1, .int (x1)), (2, .int (x2)), (3, .int (x3))] [] σ) {x1 : Int32} {x2 : Int32} {x3 : Int32} {σ : Mm} {r : Mm} (h : F_X12_copy_473 rc445 x1 x2 x3 σ = some r) : Z m_X12_copy S (Qv r) 473 [(0, .ref (sL S 3 0 0)), (1, .int (x1)), (2, .int (x2)), (3, .int (x3))] [] σ := by
  unfold F_X12_copy_473 at h
  obtain ⟨g47, h⟩ := gd h
  refine z_aload_n dX12_copy_473 rfl 0 rfl ?_
  refine gf_12_94 rfl dX12_copy_474 ?_
  refine z_bipush (v := 6) dX12_copy_477 (by decide) ?_
  refine z_iload_n dX12_copy_479 rfl 2 rfl ?_
  refine z_imul dX12_copy_480 ?_
  refine z_iload_n dX12_copy_481 rfl 3 rfl ?_
  refine z_iadd dX12_copy_482 ?_
  refine z_aload_n dX12_copy_483 rfl 0 rfl ?_
  refine gf_12_94 rfl dX12_copy_484 ?_
  refine z_bipush (v := 6) dX12_copy_487 (by decide) ?_
  refine z_iload_n dX12_copy_489 rfl 1 rfl ?_
  refine z_imul dX12_copy_490 ?_
  refine z_iload_n dX12_copy_491 rfl 3 rfl ?_
  refine z_iadd dX12_copy_492 ?_
  obtain ⟨g48, h⟩ := gd h
  refine ia_3_27 (inb_in g47) dX12_copy_493 ?_
  refine is_3_27 (inb_in g48) dX12_copy_494 ?_
  exact zb_X12_copy_495 hrc445 h
def B_X12_copy_445 (rc445 : Int32 → Int32 → Int32 → Mm → Option (Mm)) (x1 : Int32) (x2 : Int32) (x3 : Int32) (σ : Mm) : Option (Mm) := (if (6 : Int32) ≤ x3 then (F_X12_copy_503 FU x1 x2 0 σ) else (if inb (((6 : Int32) * x1) + x3) 30 = true then (if inb (((6 : Int32) * x2) + x3) 30 = true then (F_X12_copy_473 rc445 x1 x2 x3 (setA σ 3 0 26 (upd (mA σ 3 0 26) (((6 : Int32) * x2) + x3).toNatClampNeg (mA σ 3 0 26 (((6 : Int32) * x1) + x3).toNatClampNeg)))) else none) else none))
set_option maxRecDepth 20000 in
theorem zB_X12_copy_445 {S : Shp} {rc445 : Int32 → Int32 → Int32 → Mm → Option (Mm)} (hrc445 : ∀ {x1 : Int32} {x2 : Int32} {x3 : Int32} {σ : Mm} {r : Mm}, rc445 x1 x2 x3 σ = some r → Z m_X12_copy S (Qv r) 445 [(0, .ref (sL S 3 0 0)), (1, .int (x1)), (2, .int (x2)), (3, .int (x3))] [] σ) {x1 : Int32} {x2 : Int32} {x3 : Int32} {σ : Mm} {r : Mm} (h : B_X12_copy_445 rc445 x1 x2 x3 σ = some r) : Z m_X12_copy S (Qv r) 445 [(0, .ref (sL S 3 0 0)), (1, .int (x1)), (2, .int (x2)), (3, .int (x3))] [] σ := by
  unfold B_X12_copy_445 at h
  refine z_iload_n dX12_copy_445 rfl 3 rfl ?_
  refine z_bipush (v := 6) dX12_copy_446 (by decide) ?_
  refine z_icmp_ge (tgt := 501) dX12_copy_448 (by decide) (fun q => ?_) (fun q => ?_)
  · have h := (if_pos q).symm.trans h
    refine z_iconst (v := 0) dX12_copy_501 (by decide) ?_
    refine z_istore_n (lv' := [(0, .ref (sL S 3 0 0)), (1, .int (x1)), (2, .int (x2)), (3, .int (0))]) dX12_copy_502 rfl (by decide) [1, 2, 3, 0] rfl ?_
    exact zl_X12_copy_503 FU h
  · have h := (if_neg q).symm.trans h
    obtain ⟨g37, h⟩ := gd h
    refine z_aload_n dX12_copy_451 rfl 0 rfl ?_
    refine gf_12_91 rfl dX12_copy_452 ?_
    refine z_bipush (v := 6) dX12_copy_455 (by decide) ?_
    refine z_iload_n dX12_copy_457 rfl 2 rfl ?_
    refine z_imul dX12_copy_458 ?_
    refine z_iload_n dX12_copy_459 rfl 3 rfl ?_
    refine z_iadd dX12_copy_460 ?_
    refine z_aload_n dX12_copy_461 rfl 0 rfl ?_
    refine gf_12_91 rfl dX12_copy_462 ?_
    refine z_bipush (v := 6) dX12_copy_465 (by decide) ?_
    refine z_iload_n dX12_copy_467 rfl 1 rfl ?_
    refine z_imul dX12_copy_468 ?_
    refine z_iload_n dX12_copy_469 rfl 3 rfl ?_
    refine z_iadd dX12_copy_470 ?_
    obtain ⟨g38, h⟩ := gd h
    refine ia_3_26 (inb_in g37) dX12_copy_471 ?_
    refine is_3_26 (inb_in g38) dX12_copy_472 ?_
    exact zb_X12_copy_473 hrc445 h
def F_X12_copy_445 : Nat → Int32 → Int32 → Int32 → Mm → Option (Mm)
  | 0 => fun _ _ _ _ => none
  | n + 1 => B_X12_copy_445 (F_X12_copy_445 n)
theorem zl_X12_copy_445 {S : Shp} : ∀ (nn : Nat) {x1 : Int32} {x2 : Int32} {x3 : Int32} {σ : Mm} {r : Mm}, F_X12_copy_445 nn x1 x2 x3 σ = some r → Z m_X12_copy S (Qv r) 445 [(0, .ref (sL S 3 0 0)), (1, .int (x1)), (2, .int (x2)), (3, .int (x3))] [] σ := by
  intro nn
  induction nn with
  | zero => intro x1 x2 x3 σ r h; cases h
  | succ nn ih => intro x1 x2 x3 σ r h; exact zB_X12_copy_445 @ih h
def F_X12_copy_437 (rc372 : Int32 → Int32 → Int32 → Mm → Option (Mm)) (x1 : Int32) (x2 : Int32) (x3 : Int32) (σ : Mm) : Option (Mm) := (rc372 x1 x2 (x3 + 1) σ)
set_option maxRecDepth 20000 in
theorem zb_X12_copy_437 {S : Shp} {rc372 : Int32 → Int32 → Int32 → Mm → Option (Mm)} (hrc372 : ∀ {x1 : Int32} {x2 : Int32} {x3 : Int32} {σ : Mm} {r : Mm}, rc372 x1 x2 x3 σ = some r → Z m_X12_copy S (Qv r) 372 [(0, .ref (sL S 3 0 0)), (1, .int (x1)), (2, .int (x2)), (3, .int (x3))] [] σ) {x1 : Int32} {x2 : Int32} {x3 : Int32} {σ : Mm} {r : Mm} (h : F_X12_copy_437 rc372 x1 x2 x3 σ = some r) : Z m_X12_copy S (Qv r) 437 [(0, .ref (sL S 3 0 0)), (1, .int (x1)), (2, .int (x2)), (3, .int (x3))] [] σ := by
  unfold F_X12_copy_437 at h
  refine z_iinc (j := 3) (v := x3 + 1) (lv' := [(0, .ref (sL S 3 0 0)), (1, .int (x1)), (2, .int (x2)), (3, .int (x3 + 1))]) dX12_copy_437 rfl rfl (by decide) [1, 2, 3, 0] rfl ?_
  refine z_goto (tgt := 372) dX12_copy_440 (by decide) ?_
  exact hrc372 h
def F_X12_copy_417 (rc372 : Int32 → Int32 → Int32 → Mm → Option (Mm)) (x1 : Int32) (x2 : Int32) (x3 : Int32) (σ : Mm) : Option (Mm) := (if inb (((5 : Int32) * x1) + x3) 25 = true then (if inb (((5 : Int32) * x2) + x3) 25 = true then (F_X12_copy_437 rc372 x1 x2 x3 (setA σ 3 0 24 (upd (mA σ 3 0 24) (((5 : Int32) * x2) + x3).toNatClampNeg (mA σ 3 0 24 (((5 : Int32) * x1) + x3).toNatClampNeg)))) else none) else none)
set_option maxRecDepth 20000 in
theorem zb_X12_copy_417 {S : Shp} {rc372 : Int32 → Int32 → Int32 → Mm → Option (Mm)} (hrc372 : ∀ {x1 : Int32} {x2 : Int32} {x3 : Int32} {σ : Mm} {r : Mm}, rc372 x1 x2 x3 σ = some r → Z m_X12_copy S (Qv r) 372 [(0, .ref (sL S 3 0 0)), (1, .int (x1)), (2, .int (x2)), (3, .int (x3))] [] σ) {x1 : Int32} {x2 : Int32} {x3 : Int32} {σ : Mm} {r : Mm} (h : F_X12_copy_417 rc372 x1 x2 x3 σ = some r) : Z m_X12_copy S (Qv r) 417 [(0, .ref (sL S 3 0 0)), (1, .int (x1)), (2, .int (x2)), (3, .int (x3))] [] σ := by
  unfold F_X12_copy_417 at h
  obtain ⟨g49, h⟩ := gd h
  refine z_aload_n dX12_copy_417 rfl 0 rfl ?_
  refine gf_12_85 rfl dX12_copy_418 ?_
  refine z_iconst (v := 5) dX12_copy_421 (by decide) ?_
  refine z_iload_n dX12_copy_422 rfl 2 rfl ?_
  refine z_imul dX12_copy_423 ?_
  refine z_iload_n dX12_copy_424 rfl 3 rfl ?_
  refine z_iadd dX12_copy_425 ?_
  refine z_aload_n dX12_copy_426 rfl 0 rfl ?_
  refine gf_12_85 rfl dX12_copy_427 ?_
  refine z_iconst (v := 5) dX12_copy_430 (by decide) ?_
  refine z_iload_n dX12_copy_431 rfl 1 rfl ?_
  refine z_imul dX12_copy_432 ?_
  refine z_iload_n dX12_copy_433 rfl 3 rfl ?_
  refine z_iadd dX12_copy_434 ?_
  obtain ⟨g50, h⟩ := gd h
  refine ia_3_24 (inb_in g49) dX12_copy_435 ?_
  refine is_3_24 (inb_in g50) dX12_copy_436 ?_
  exact zb_X12_copy_437 hrc372 h
def F_X12_copy_397 (rc372 : Int32 → Int32 → Int32 → Mm → Option (Mm)) (x1 : Int32) (x2 : Int32) (x3 : Int32) (σ : Mm) : Option (Mm) := (if inb (((5 : Int32) * x1) + x3) 25 = true then (if inb (((5 : Int32) * x2) + x3) 25 = true then (F_X12_copy_417 rc372 x1 x2 x3 (setA σ 3 0 23 (upd (mA σ 3 0 23) (((5 : Int32) * x2) + x3).toNatClampNeg (mA σ 3 0 23 (((5 : Int32) * x1) + x3).toNatClampNeg)))) else none) else none)
set_option maxRecDepth 20000 in
theorem zb_X12_copy_397 {S : Shp} {rc372 : Int32 → Int32 → Int32 → Mm → Option (Mm)} (hrc372 : ∀ {x1 : Int32} {x2 : Int32} {x3 : Int32} {σ : Mm} {r : Mm}, rc372 x1 x2 x3 σ = some r → Z m_X12_copy S (Qv r) 372 [(0, .ref (sL S 3 0 0)), (1, .int (x1)), (2, .int (x2)), (3, .int (x3))] [] σ) {x1 : Int32} {x2 : Int32} {x3 : Int32} {σ : Mm} {r : Mm} (h : F_X12_copy_397 rc372 x1 x2 x3 σ = some r) : Z m_X12_copy S (Qv r) 397 [(0, .ref (sL S 3 0 0)), (1, .int (x1)), (2, .int (x2)), (3, .int (x3))] [] σ := by
  unfold F_X12_copy_397 at h
  obtain ⟨g39, h⟩ := gd h
  refine z_aload_n dX12_copy_397 rfl 0 rfl ?_
  refine gf_12_82 rfl dX12_copy_398 ?_
  refine z_iconst (v := 5) dX12_copy_401 (by decide) ?_
  refine z_iload_n dX12_copy_402 rfl 2 rfl ?_
  refine z_imul dX12_copy_403 ?_
  refine z_iload_n dX12_copy_404 rfl 3 rfl ?_
  refine z_iadd dX12_copy_405 ?_
  refine z_aload_n dX12_copy_406 rfl 0 rfl ?_
  refine gf_12_82 rfl dX12_copy_407 ?_
  refine z_iconst (v := 5) dX12_copy_410 (by decide) ?_
  refine z_iload_n dX12_copy_411 rfl 1 rfl ?_
  refine z_imul dX12_copy_412 ?_
  refine z_iload_n dX12_copy_413 rfl 3 rfl ?_
  refine z_iadd dX12_copy_414 ?_
  obtain ⟨g40, h⟩ := gd h
  refine ia_3_23 (inb_in g39) dX12_copy_415 ?_
  refine is_3_23 (inb_in g40) dX12_copy_416 ?_
  exact zb_X12_copy_417 hrc372 h
def B_X12_copy_372 (rc372 : Int32 → Int32 → Int32 → Mm → Option (Mm)) (x1 : Int32) (x2 : Int32) (x3 : Int32) (σ : Mm) : Option (Mm) := (if (5 : Int32) ≤ x3 then (F_X12_copy_445 FU x1 x2 0 σ) else (if inb (((5 : Int32) * x1) + x3) 25 = true then (if inb (((5 : Int32) * x2) + x3) 25 = true then (F_X12_copy_397 rc372 x1 x2 x3 (setA σ 3 0 22 (upd (mA σ 3 0 22) (((5 : Int32) * x2) + x3).toNatClampNeg (mA σ 3 0 22 (((5 : Int32) * x1) + x3).toNatClampNeg)))) else none) else none))
set_option maxRecDepth 20000 in
theorem zB_X12_copy_372 {S : Shp} {rc372 : Int32 → Int32 → Int32 → Mm → Option (Mm)} (hrc372 : ∀ {x1 : Int32} {x2 : Int32} {x3 : Int32} {σ : Mm} {r : Mm}, rc372 x1 x2 x3 σ = some r → Z m_X12_copy S (Qv r) 372 [(0, .ref (sL S 3 0 0)), (1, .int (x1)), (2, .int (x2)), (3, .int (x3))] [] σ) {x1 : Int32} {x2 : Int32} {x3 : Int32} {σ : Mm} {r : Mm} (h : B_X12_copy_372 rc372 x1 x2 x3 σ = some r) : Z m_X12_copy S (Qv r) 372 [(0, .ref (sL S 3 0 0)), (1, .int (x1)), (2, .int (x2)), (3, .int (x3))] [] σ := by
  unfold B_X12_copy_372 at h
  refine z_iload_n dX12_copy_372 rfl 3 rfl ?_
  refine z_iconst (v := 5) dX12_copy_373 (by decide) ?_
  refine z_icmp_ge (tgt := 443) dX12_copy_374 (by decide) (fun q => ?_) (fun q => ?_)
  · have h := (if_pos q).symm.trans h
    refine z_iconst (v := 0) dX12_copy_443 (by decide) ?_
    refine z_istore_n (lv' := [(0, .ref (sL S 3 0 0)), (1, .int (x1)), (2, .int (x2)), (3, .int (0))]) dX12_copy_444 rfl (by decide) [1, 2, 3, 0] rfl ?_
    exact zl_X12_copy_445 FU h
  · have h := (if_neg q).symm.trans h
    obtain ⟨g31, h⟩ := gd h
    refine z_aload_n dX12_copy_377 rfl 0 rfl ?_
    refine gf_12_79 rfl dX12_copy_378 ?_
    refine z_iconst (v := 5) dX12_copy_381 (by decide) ?_
    refine z_iload_n dX12_copy_382 rfl 2 rfl ?_
    refine z_imul dX12_copy_383 ?_
    refine z_iload_n dX12_copy_384 rfl 3 rfl ?_
    refine z_iadd dX12_copy_385 ?_
    refine z_aload_n dX12_copy_386 rfl 0 rfl ?_
    refine gf_12_79 rfl dX12_copy_387 ?_
    refine z_iconst (v := 5) dX12_copy_390 (by decide) ?_
    refine z_iload_n dX12_copy_391 rfl 1 rfl ?_
    refine z_imul dX12_copy_392 ?_
    refine z_iload_n dX12_copy_393 rfl 3 rfl ?_
    refine z_iadd dX12_copy_394 ?_
    obtain ⟨g32, h⟩ := gd h
    refine ia_3_22 (inb_in g31) dX12_copy_395 ?_
    refine is_3_22 (inb_in g32) dX12_copy_396 ?_
    exact zb_X12_copy_397 hrc372 h
def F_X12_copy_372 : Nat → Int32 → Int32 → Int32 → Mm → Option (Mm)
  | 0 => fun _ _ _ _ => none
  | n + 1 => B_X12_copy_372 (F_X12_copy_372 n)
theorem zl_X12_copy_372 {S : Shp} : ∀ (nn : Nat) {x1 : Int32} {x2 : Int32} {x3 : Int32} {σ : Mm} {r : Mm}, F_X12_copy_372 nn x1 x2 x3 σ = some r → Z m_X12_copy S (Qv r) 372 [(0, .ref (sL S 3 0 0)), (1, .int (x1)), (2, .int (x2)), (3, .int (x3))] [] σ := by
  intro nn
  induction nn with
  | zero => intro x1 x2 x3 σ r h; cases h
  | succ nn ih => intro x1 x2 x3 σ r h; exact zB_X12_copy_372 @ih h
def F_X12_copy_364 (rc292 : Int32 → Int32 → Int32 → Mm → Option (Mm)) (x1 : Int32) (x2 : Int32) (x3 : Int32) (σ : Mm) : Option (Mm) := (rc292 x1 x2 (x3 + 1) σ)
set_option maxRecDepth 20000 in
theorem zb_X12_copy_364 {S : Shp} {rc292 : Int32 → Int32 → Int32 → Mm → Option (Mm)} (hrc292 : ∀ {x1 : Int32} {x2 : Int32} {x3 : Int32} {σ : Mm} {r : Mm}, rc292 x1 x2 x3 σ = some r → Z m_X12_copy S (Qv r) 292 [(0, .ref (sL S 3 0 0)), (1, .int (x1)), (2, .int (x2)), (3, .int (x3))] [] σ) {x1 : Int32} {x2 : Int32} {x3 : Int32} {σ : Mm} {r : Mm} (h : F_X12_copy_364 rc292 x1 x2 x3 σ = some r) : Z m_X12_copy S (Qv r) 364 [(0, .ref (sL S 3 0 0)), (1, .int (x1)), (2, .int (x2)), (3, .int (x3))] [] σ := by
  unfold F_X12_copy_364 at h
  refine z_iinc (j := 3) (v := x3 + 1) (lv' := [(0, .ref (sL S 3 0 0)), (1, .int (x1)), (2, .int (x2)), (3, .int (x3 + 1))]) dX12_copy_364 rfl rfl (by decide) [1, 2, 3, 0] rfl ?_
  refine z_goto (tgt := 292) dX12_copy_367 (by decide) ?_
  exact hrc292 h
def F_X12_copy_342 (rc292 : Int32 → Int32 → Int32 → Mm → Option (Mm)) (x1 : Int32) (x2 : Int32) (x3 : Int32) (σ : Mm) : Option (Mm) := (if inb (((12 : Int32) * x1) + x3) 60 = true then (if inb (((12 : Int32) * x2) + x3) 60 = true then (F_X12_copy_364 rc292 x1 x2 x3 (setA σ 3 0 20 (upd (mA σ 3 0 20) (((12 : Int32) * x2) + x3).toNatClampNeg (mA σ 3 0 20 (((12 : Int32) * x1) + x3).toNatClampNeg)))) else none) else none)
set_option maxRecDepth 20000 in
theorem zb_X12_copy_342 {S : Shp} {rc292 : Int32 → Int32 → Int32 → Mm → Option (Mm)} (hrc292 : ∀ {x1 : Int32} {x2 : Int32} {x3 : Int32} {σ : Mm} {r : Mm}, rc292 x1 x2 x3 σ = some r → Z m_X12_copy S (Qv r) 292 [(0, .ref (sL S 3 0 0)), (1, .int (x1)), (2, .int (x2)), (3, .int (x3))] [] σ) {x1 : Int32} {x2 : Int32} {x3 : Int32} {σ : Mm} {r : Mm} (h : F_X12_copy_342 rc292 x1 x2 x3 σ = some r) : Z m_X12_copy S (Qv r) 342 [(0, .ref (sL S 3 0 0)), (1, .int (x1)), (2, .int (x2)), (3, .int (x3))] [] σ := by
  unfold F_X12_copy_342 at h
  obtain ⟨g41, h⟩ := gd h
  refine z_aload_n dX12_copy_342 rfl 0 rfl ?_
  refine gf_12_73 rfl dX12_copy_343 ?_
  refine z_bipush (v := 12) dX12_copy_346 (by decide) ?_
  refine z_iload_n dX12_copy_348 rfl 2 rfl ?_
  refine z_imul dX12_copy_349 ?_
  refine z_iload_n dX12_copy_350 rfl 3 rfl ?_
  refine z_iadd dX12_copy_351 ?_
  refine z_aload_n dX12_copy_352 rfl 0 rfl ?_
  refine gf_12_73 rfl dX12_copy_353 ?_
  refine z_bipush (v := 12) dX12_copy_356 (by decide) ?_
  refine z_iload_n dX12_copy_358 rfl 1 rfl ?_
  refine z_imul dX12_copy_359 ?_
  refine z_iload_n dX12_copy_360 rfl 3 rfl ?_
  refine z_iadd dX12_copy_361 ?_
  obtain ⟨g42, h⟩ := gd h
  refine ia_3_20 (inb_in g41) dX12_copy_362 ?_
  refine is_3_20 (inb_in g42) dX12_copy_363 ?_
  exact zb_X12_copy_364 hrc292 h
def F_X12_copy_320 (rc292 : Int32 → Int32 → Int32 → Mm → Option (Mm)) (x1 : Int32) (x2 : Int32) (x3 : Int32) (σ : Mm) : Option (Mm) := (if inb (((12 : Int32) * x1) + x3) 60 = true then (if inb (((12 : Int32) * x2) + x3) 60 = true then (F_X12_copy_342 rc292 x1 x2 x3 (setA σ 3 0 19 (upd (mA σ 3 0 19) (((12 : Int32) * x2) + x3).toNatClampNeg (mA σ 3 0 19 (((12 : Int32) * x1) + x3).toNatClampNeg)))) else none) else none)
set_option maxRecDepth 20000 in
theorem zb_X12_copy_320 {S : Shp} {rc292 : Int32 → Int32 → Int32 → Mm → Option (Mm)} (hrc292 : ∀ {x1 : Int32} {x2 : Int32} {x3 : Int32} {σ : Mm} {r : Mm}, rc292 x1 x2 x3 σ = some r → Z m_X12_copy S (Qv r) 292 [(0, .ref (sL S 3 0 0)), (1, .int (x1)), (2, .int (x2)), (3, .int (x3))] [] σ) {x1 : Int32} {x2 : Int32} {x3 : Int32} {σ : Mm} {r : Mm} (h : F_X12_copy_320 rc292 x1 x2 x3 σ = some r) : Z m_X12_copy S (Qv r) 320 [(0, .ref (sL S 3 0 0)), (1, .int (x1)), (2, .int (x2)), (3, .int (x3))] [] σ := by
  unfold F_X12_copy_320 at h
  obtain ⟨g33, h⟩ := gd h
  refine z_aload_n dX12_copy_320 rfl 0 rfl ?_
  refine gf_12_70 rfl dX12_copy_321 ?_
  refine z_bipush (v := 12) dX12_copy_324 (by decide) ?_
  refine z_iload_n dX12_copy_326 rfl 2 rfl ?_
  refine z_imul dX12_copy_327 ?_
  refine z_iload_n dX12_copy_328 rfl 3 rfl ?_
  refine z_iadd dX12_copy_329 ?_
  refine z_aload_n dX12_copy_330 rfl 0 rfl ?_
  refine gf_12_70 rfl dX12_copy_331 ?_
  refine z_bipush (v := 12) dX12_copy_334 (by decide) ?_
  refine z_iload_n dX12_copy_336 rfl 1 rfl ?_
  refine z_imul dX12_copy_337 ?_
  refine z_iload_n dX12_copy_338 rfl 3 rfl ?_
  refine z_iadd dX12_copy_339 ?_
  obtain ⟨g34, h⟩ := gd h
  refine ia_3_19 (inb_in g33) dX12_copy_340 ?_
  refine is_3_19 (inb_in g34) dX12_copy_341 ?_
  exact zb_X12_copy_342 hrc292 h
def B_X12_copy_292 (rc292 : Int32 → Int32 → Int32 → Mm → Option (Mm)) (x1 : Int32) (x2 : Int32) (x3 : Int32) (σ : Mm) : Option (Mm) := (if (12 : Int32) ≤ x3 then (F_X12_copy_372 FU x1 x2 0 σ) else (if inb (((12 : Int32) * x1) + x3) 60 = true then (if inb (((12 : Int32) * x2) + x3) 60 = true then (F_X12_copy_320 rc292 x1 x2 x3 (setA σ 3 0 18 (upd (mA σ 3 0 18) (((12 : Int32) * x2) + x3).toNatClampNeg (mA σ 3 0 18 (((12 : Int32) * x1) + x3).toNatClampNeg)))) else none) else none))
set_option maxRecDepth 20000 in
theorem zB_X12_copy_292 {S : Shp} {rc292 : Int32 → Int32 → Int32 → Mm → Option (Mm)} (hrc292 : ∀ {x1 : Int32} {x2 : Int32} {x3 : Int32} {σ : Mm} {r : Mm}, rc292 x1 x2 x3 σ = some r → Z m_X12_copy S (Qv r) 292 [(0, .ref (sL S 3 0 0)), (1, .int (x1)), (2, .int (x2)), (3, .int (x3))] [] σ) {x1 : Int32} {x2 : Int32} {x3 : Int32} {σ : Mm} {r : Mm} (h : B_X12_copy_292 rc292 x1 x2 x3 σ = some r) : Z m_X12_copy S (Qv r) 292 [(0, .ref (sL S 3 0 0)), (1, .int (x1)), (2, .int (x2)), (3, .int (x3))] [] σ := by
  unfold B_X12_copy_292 at h
  refine z_iload_n dX12_copy_292 rfl 3 rfl ?_
  refine z_bipush (v := 12) dX12_copy_293 (by decide) ?_
  refine z_icmp_ge (tgt := 370) dX12_copy_295 (by decide) (fun q => ?_) (fun q => ?_)
  · have h := (if_pos q).symm.trans h
    refine z_iconst (v := 0) dX12_copy_370 (by decide) ?_
    refine z_istore_n (lv' := [(0, .ref (sL S 3 0 0)), (1, .int (x1)), (2, .int (x2)), (3, .int (0))]) dX12_copy_371 rfl (by decide) [1, 2, 3, 0] rfl ?_
    exact zl_X12_copy_372 FU h
  · have h := (if_neg q).symm.trans h
    obtain ⟨g25, h⟩ := gd h
    refine z_aload_n dX12_copy_298 rfl 0 rfl ?_
    refine gf_12_67 rfl dX12_copy_299 ?_
    refine z_bipush (v := 12) dX12_copy_302 (by decide) ?_
    refine z_iload_n dX12_copy_304 rfl 2 rfl ?_
    refine z_imul dX12_copy_305 ?_
    refine z_iload_n dX12_copy_306 rfl 3 rfl ?_
    refine z_iadd dX12_copy_307 ?_
    refine z_aload_n dX12_copy_308 rfl 0 rfl ?_
    refine gf_12_67 rfl dX12_copy_309 ?_
    refine z_bipush (v := 12) dX12_copy_312 (by decide) ?_
    refine z_iload_n dX12_copy_314 rfl 1 rfl ?_
    refine z_imul dX12_copy_315 ?_
    refine z_iload_n dX12_copy_316 rfl 3 rfl ?_
    refine z_iadd dX12_copy_317 ?_
    obtain ⟨g26, h⟩ := gd h
    refine ia_3_18 (inb_in g25) dX12_copy_318 ?_
    refine is_3_18 (inb_in g26) dX12_copy_319 ?_
    exact zb_X12_copy_320 hrc292 h
def F_X12_copy_292 : Nat → Int32 → Int32 → Int32 → Mm → Option (Mm)
  | 0 => fun _ _ _ _ => none
  | n + 1 => B_X12_copy_292 (F_X12_copy_292 n)
theorem zl_X12_copy_292 {S : Shp} : ∀ (nn : Nat) {x1 : Int32} {x2 : Int32} {x3 : Int32} {σ : Mm} {r : Mm}, F_X12_copy_292 nn x1 x2 x3 σ = some r → Z m_X12_copy S (Qv r) 292 [(0, .ref (sL S 3 0 0)), (1, .int (x1)), (2, .int (x2)), (3, .int (x3))] [] σ := by
  intro nn
  induction nn with
  | zero => intro x1 x2 x3 σ r h; cases h
  | succ nn ih => intro x1 x2 x3 σ r h; exact zB_X12_copy_292 @ih h
def F_X12_copy_284 (rc234 : Int32 → Int32 → Int32 → Mm → Option (Mm)) (x1 : Int32) (x2 : Int32) (x3 : Int32) (σ : Mm) : Option (Mm) := (rc234 x1 x2 (x3 + 1) σ)
set_option maxRecDepth 20000 in
theorem zb_X12_copy_284 {S : Shp} {rc234 : Int32 → Int32 → Int32 → Mm → Option (Mm)} (hrc234 : ∀ {x1 : Int32} {x2 : Int32} {x3 : Int32} {σ : Mm} {r : Mm}, rc234 x1 x2 x3 σ = some r → Z m_X12_copy S (Qv r) 234 [(0, .ref (sL S 3 0 0)), (1, .int (x1)), (2, .int (x2)), (3, .int (x3))] [] σ) {x1 : Int32} {x2 : Int32} {x3 : Int32} {σ : Mm} {r : Mm} (h : F_X12_copy_284 rc234 x1 x2 x3 σ = some r) : Z m_X12_copy S (Qv r) 284 [(0, .ref (sL S 3 0 0)), (1, .int (x1)), (2, .int (x2)), (3, .int (x3))] [] σ := by
  unfold F_X12_copy_284 at h
  refine z_iinc (j := 3) (v := x3 + 1) (lv' := [(0, .ref (sL S 3 0 0)), (1, .int (x1)), (2, .int (x2)), (3, .int (x3 + 1))]) dX12_copy_284 rfl rfl (by decide) [1, 2, 3, 0] rfl ?_
  refine z_goto (tgt := 234) dX12_copy_287 (by decide) ?_
  exact hrc234 h
def F_X12_copy_262 (rc234 : Int32 → Int32 → Int32 → Mm → Option (Mm)) (x1 : Int32) (x2 : Int32) (x3 : Int32) (σ : Mm) : Option (Mm) := (if inb (((8 : Int32) * x1) + x3) 40 = true then (if inb (((8 : Int32) * x2) + x3) 40 = true then (F_X12_copy_284 rc234 x1 x2 x3 (setA σ 3 0 16 (upd (mA σ 3 0 16) (((8 : Int32) * x2) + x3).toNatClampNeg (mA σ 3 0 16 (((8 : Int32) * x1) + x3).toNatClampNeg)))) else none) else none)
set_option maxRecDepth 20000 in
theorem zb_X12_copy_262 {S : Shp} {rc234 : Int32 → Int32 → Int32 → Mm → Option (Mm)} (hrc234 : ∀ {x1 : Int32} {x2 : Int32} {x3 : Int32} {σ : Mm} {r : Mm}, rc234 x1 x2 x3 σ = some r → Z m_X12_copy S (Qv r) 234 [(0, .ref (sL S 3 0 0)), (1, .int (x1)), (2, .int (x2)), (3, .int (x3))] [] σ) {x1 : Int32} {x2 : Int32} {x3 : Int32} {σ : Mm} {r : Mm} (h : F_X12_copy_262 rc234 x1 x2 x3 σ = some r) : Z m_X12_copy S (Qv r) 262 [(0, .ref (sL S 3 0 0)), (1, .int (x1)), (2, .int (x2)), (3, .int (x3))] [] σ := by
  unfold F_X12_copy_262 at h
  obtain ⟨g27, h⟩ := gd h
  refine z_aload_n dX12_copy_262 rfl 0 rfl ?_
  refine gf_12_61 rfl dX12_copy_263 ?_
  refine z_bipush (v := 8) dX12_copy_266 (by decide) ?_
  refine z_iload_n dX12_copy_268 rfl 2 rfl ?_
  refine z_imul dX12_copy_269 ?_
  refine z_iload_n dX12_copy_270 rfl 3 rfl ?_
  refine z_iadd dX12_copy_271 ?_
  refine z_aload_n dX12_copy_272 rfl 0 rfl ?_
  refine gf_12_61 rfl dX12_copy_273 ?_
  refine z_bipush (v := 8) dX12_copy_276 (by decide) ?_
  refine z_iload_n dX12_copy_278 rfl 1 rfl ?_
  refine z_imul dX12_copy_279 ?_
  refine z_iload_n dX12_copy_280 rfl 3 rfl ?_
  refine z_iadd dX12_copy_281 ?_
  obtain ⟨g28, h⟩ := gd h
  refine ia_3_16 (inb_in g27) dX12_copy_282 ?_
  refine is_3_16 (inb_in g28) dX12_copy_283 ?_
  exact zb_X12_copy_284 hrc234 h
def B_X12_copy_234 (rc234 : Int32 → Int32 → Int32 → Mm → Option (Mm)) (x1 : Int32) (x2 : Int32) (x3 : Int32) (σ : Mm) : Option (Mm) := (if (8 : Int32) ≤ x3 then (F_X12_copy_292 FU x1 x2 0 σ) else (if inb (((8 : Int32) * x1) + x3) 40 = true then (if inb (((8 : Int32) * x2) + x3) 40 = true then (F_X12_copy_262 rc234 x1 x2 x3 (setA σ 3 0 15 (upd (mA σ 3 0 15) (((8 : Int32) * x2) + x3).toNatClampNeg (mA σ 3 0 15 (((8 : Int32) * x1) + x3).toNatClampNeg)))) else none) else none))
set_option maxRecDepth 20000 in
theorem zB_X12_copy_234 {S : Shp} {rc234 : Int32 → Int32 → Int32 → Mm → Option (Mm)} (hrc234 : ∀ {x1 : Int32} {x2 : Int32} {x3 : Int32} {σ : Mm} {r : Mm}, rc234 x1 x2 x3 σ = some r → Z m_X12_copy S (Qv r) 234 [(0, .ref (sL S 3 0 0)), (1, .int (x1)), (2, .int (x2)), (3, .int (x3))] [] σ) {x1 : Int32} {x2 : Int32} {x3 : Int32} {σ : Mm} {r : Mm} (h : B_X12_copy_234 rc234 x1 x2 x3 σ = some r) : Z m_X12_copy S (Qv r) 234 [(0, .ref (sL S 3 0 0)), (1, .int (x1)), (2, .int (x2)), (3, .int (x3))] [] σ := by
  unfold B_X12_copy_234 at h
  refine z_iload_n dX12_copy_234 rfl 3 rfl ?_
  refine z_bipush (v := 8) dX12_copy_235 (by decide) ?_
  refine z_icmp_ge (tgt := 290) dX12_copy_237 (by decide) (fun q => ?_) (fun q => ?_)
  · have h := (if_pos q).symm.trans h
    refine z_iconst (v := 0) dX12_copy_290 (by decide) ?_
    refine z_istore_n (lv' := [(0, .ref (sL S 3 0 0)), (1, .int (x1)), (2, .int (x2)), (3, .int (0))]) dX12_copy_291 rfl (by decide) [1, 2, 3, 0] rfl ?_
    exact zl_X12_copy_292 FU h
  · have h := (if_neg q).symm.trans h
    obtain ⟨g21, h⟩ := gd h
    refine z_aload_n dX12_copy_240 rfl 0 rfl ?_
    refine gf_12_58 rfl dX12_copy_241 ?_
    refine z_bipush (v := 8) dX12_copy_244 (by decide) ?_
    refine z_iload_n dX12_copy_246 rfl 2 rfl ?_
    refine z_imul dX12_copy_247 ?_
    refine z_iload_n dX12_copy_248 rfl 3 rfl ?_
    refine z_iadd dX12_copy_249 ?_
    refine z_aload_n dX12_copy_250 rfl 0 rfl ?_
    refine gf_12_58 rfl dX12_copy_251 ?_
    refine z_bipush (v := 8) dX12_copy_254 (by decide) ?_
    refine z_iload_n dX12_copy_256 rfl 1 rfl ?_
    refine z_imul dX12_copy_257 ?_
    refine z_iload_n dX12_copy_258 rfl 3 rfl ?_
    refine z_iadd dX12_copy_259 ?_
    obtain ⟨g22, h⟩ := gd h
    refine ia_3_15 (inb_in g21) dX12_copy_260 ?_
    refine is_3_15 (inb_in g22) dX12_copy_261 ?_
    exact zb_X12_copy_262 hrc234 h
def F_X12_copy_234 : Nat → Int32 → Int32 → Int32 → Mm → Option (Mm)
  | 0 => fun _ _ _ _ => none
  | n + 1 => B_X12_copy_234 (F_X12_copy_234 n)
theorem zl_X12_copy_234 {S : Shp} : ∀ (nn : Nat) {x1 : Int32} {x2 : Int32} {x3 : Int32} {σ : Mm} {r : Mm}, F_X12_copy_234 nn x1 x2 x3 σ = some r → Z m_X12_copy S (Qv r) 234 [(0, .ref (sL S 3 0 0)), (1, .int (x1)), (2, .int (x2)), (3, .int (x3))] [] σ := by
  intro nn
  induction nn with
  | zero => intro x1 x2 x3 σ r h; cases h
  | succ nn ih => intro x1 x2 x3 σ r h; exact zB_X12_copy_234 @ih h
def F_X12_copy_226 (rc110 : Int32 → Int32 → Int32 → Mm → Option (Mm)) (x1 : Int32) (x2 : Int32) (x3 : Int32) (σ : Mm) : Option (Mm) := (rc110 x1 x2 (x3 + 1) σ)
set_option maxRecDepth 20000 in
theorem zb_X12_copy_226 {S : Shp} {rc110 : Int32 → Int32 → Int32 → Mm → Option (Mm)} (hrc110 : ∀ {x1 : Int32} {x2 : Int32} {x3 : Int32} {σ : Mm} {r : Mm}, rc110 x1 x2 x3 σ = some r → Z m_X12_copy S (Qv r) 110 [(0, .ref (sL S 3 0 0)), (1, .int (x1)), (2, .int (x2)), (3, .int (x3))] [] σ) {x1 : Int32} {x2 : Int32} {x3 : Int32} {σ : Mm} {r : Mm} (h : F_X12_copy_226 rc110 x1 x2 x3 σ = some r) : Z m_X12_copy S (Qv r) 226 [(0, .ref (sL S 3 0 0)), (1, .int (x1)), (2, .int (x2)), (3, .int (x3))] [] σ := by
  unfold F_X12_copy_226 at h
  refine z_iinc (j := 3) (v := x3 + 1) (lv' := [(0, .ref (sL S 3 0 0)), (1, .int (x1)), (2, .int (x2)), (3, .int (x3 + 1))]) dX12_copy_226 rfl rfl (by decide) [1, 2, 3, 0] rfl ?_
  refine z_goto (tgt := 110) dX12_copy_229 (by decide) ?_
  exact hrc110 h
def F_X12_copy_204 (rc110 : Int32 → Int32 → Int32 → Mm → Option (Mm)) (x1 : Int32) (x2 : Int32) (x3 : Int32) (σ : Mm) : Option (Mm) := (if inb (((14 : Int32) * x1) + x3) 70 = true then (if inb (((14 : Int32) * x2) + x3) 70 = true then (F_X12_copy_226 rc110 x1 x2 x3 (setA σ 3 0 13 (upd (mA σ 3 0 13) (((14 : Int32) * x2) + x3).toNatClampNeg (mA σ 3 0 13 (((14 : Int32) * x1) + x3).toNatClampNeg)))) else none) else none)
set_option maxRecDepth 20000 in
theorem zb_X12_copy_204 {S : Shp} {rc110 : Int32 → Int32 → Int32 → Mm → Option (Mm)} (hrc110 : ∀ {x1 : Int32} {x2 : Int32} {x3 : Int32} {σ : Mm} {r : Mm}, rc110 x1 x2 x3 σ = some r → Z m_X12_copy S (Qv r) 110 [(0, .ref (sL S 3 0 0)), (1, .int (x1)), (2, .int (x2)), (3, .int (x3))] [] σ) {x1 : Int32} {x2 : Int32} {x3 : Int32} {σ : Mm} {r : Mm} (h : F_X12_copy_204 rc110 x1 x2 x3 σ = some r) : Z m_X12_copy S (Qv r) 204 [(0, .ref (sL S 3 0 0)), (1, .int (x1)), (2, .int (x2)), (3, .int (x3))] [] σ := by
  unfold F_X12_copy_204 at h
  obtain ⟨g43, h⟩ := gd h
  refine z_aload_n dX12_copy_204 rfl 0 rfl ?_
  refine gf_12_52 rfl dX12_copy_205 ?_
  refine z_bipush (v := 14) dX12_copy_208 (by decide) ?_
  refine z_iload_n dX12_copy_210 rfl 2 rfl ?_
  refine z_imul dX12_copy_211 ?_
  refine z_iload_n dX12_copy_212 rfl 3 rfl ?_
  refine z_iadd dX12_copy_213 ?_
  refine z_aload_n dX12_copy_214 rfl 0 rfl ?_
  refine gf_12_52 rfl dX12_copy_215 ?_
  refine z_bipush (v := 14) dX12_copy_218 (by decide) ?_
  refine z_iload_n dX12_copy_220 rfl 1 rfl ?_
  refine z_imul dX12_copy_221 ?_
  refine z_iload_n dX12_copy_222 rfl 3 rfl ?_
  refine z_iadd dX12_copy_223 ?_
  obtain ⟨g44, h⟩ := gd h
  refine ia_3_13 (inb_in g43) dX12_copy_224 ?_
  refine is_3_13 (inb_in g44) dX12_copy_225 ?_
  exact zb_X12_copy_226 hrc110 h
def F_X12_copy_182 (rc110 : Int32 → Int32 → Int32 → Mm → Option (Mm)) (x1 : Int32) (x2 : Int32) (x3 : Int32) (σ : Mm) : Option (Mm) := (if inb (((14 : Int32) * x1) + x3) 70 = true then (if inb (((14 : Int32) * x2) + x3) 70 = true then (F_X12_copy_204 rc110 x1 x2 x3 (setA σ 3 0 12 (upd (mA σ 3 0 12) (((14 : Int32) * x2) + x3).toNatClampNeg (mA σ 3 0 12 (((14 : Int32) * x1) + x3).toNatClampNeg)))) else none) else none)
set_option maxRecDepth 20000 in
theorem zb_X12_copy_182 {S : Shp} {rc110 : Int32 → Int32 → Int32 → Mm → Option (Mm)} (hrc110 : ∀ {x1 : Int32} {x2 : Int32} {x3 : Int32} {σ : Mm} {r : Mm}, rc110 x1 x2 x3 σ = some r → Z m_X12_copy S (Qv r) 110 [(0, .ref (sL S 3 0 0)), (1, .int (x1)), (2, .int (x2)), (3, .int (x3))] [] σ) {x1 : Int32} {x2 : Int32} {x3 : Int32} {σ : Mm} {r : Mm} (h : F_X12_copy_182 rc110 x1 x2 x3 σ = some r) : Z m_X12_copy S (Qv r) 182 [(0, .ref (sL S 3 0 0)), (1, .int (x1)), (2, .int (x2)), (3, .int (x3))] [] σ := by
  unfold F_X12_copy_182 at h
  obtain ⟨g35, h⟩ := gd h
  refine z_aload_n dX12_copy_182 rfl 0 rfl ?_
  refine gf_12_49 rfl dX12_copy_183 ?_
  refine z_bipush (v := 14) dX12_copy_186 (by decide) ?_
  refine z_iload_n dX12_copy_188 rfl 2 rfl ?_
  refine z_imul dX12_copy_189 ?_
  refine z_iload_n dX12_copy_190 rfl 3 rfl ?_
  refine z_iadd dX12_copy_191 ?_
  refine z_aload_n dX12_copy_192 rfl 0 rfl ?_
  refine gf_12_49 rfl dX12_copy_193 ?_
  refine z_bipush (v := 14) dX12_copy_196 (by decide) ?_
  refine z_iload_n dX12_copy_198 rfl 1 rfl ?_
  refine z_imul dX12_copy_199 ?_
  refine z_iload_n dX12_copy_200 rfl 3 rfl ?_
  refine z_iadd dX12_copy_201 ?_
  obtain ⟨g36, h⟩ := gd h
  refine ia_3_12 (inb_in g35) dX12_copy_202 ?_
  refine is_3_12 (inb_in g36) dX12_copy_203 ?_
  exact zb_X12_copy_204 hrc110 h
def F_X12_copy_160 (rc110 : Int32 → Int32 → Int32 → Mm → Option (Mm)) (x1 : Int32) (x2 : Int32) (x3 : Int32) (σ : Mm) : Option (Mm) := (if inb (((14 : Int32) * x1) + x3) 70 = true then (if inb (((14 : Int32) * x2) + x3) 70 = true then (F_X12_copy_182 rc110 x1 x2 x3 (setA σ 3 0 11 (upd (mA σ 3 0 11) (((14 : Int32) * x2) + x3).toNatClampNeg (mA σ 3 0 11 (((14 : Int32) * x1) + x3).toNatClampNeg)))) else none) else none)
set_option maxRecDepth 20000 in
theorem zb_X12_copy_160 {S : Shp} {rc110 : Int32 → Int32 → Int32 → Mm → Option (Mm)} (hrc110 : ∀ {x1 : Int32} {x2 : Int32} {x3 : Int32} {σ : Mm} {r : Mm}, rc110 x1 x2 x3 σ = some r → Z m_X12_copy S (Qv r) 110 [(0, .ref (sL S 3 0 0)), (1, .int (x1)), (2, .int (x2)), (3, .int (x3))] [] σ) {x1 : Int32} {x2 : Int32} {x3 : Int32} {σ : Mm} {r : Mm} (h : F_X12_copy_160 rc110 x1 x2 x3 σ = some r) : Z m_X12_copy S (Qv r) 160 [(0, .ref (sL S 3 0 0)), (1, .int (x1)), (2, .int (x2)), (3, .int (x3))] [] σ := by
  unfold F_X12_copy_160 at h
  obtain ⟨g29, h⟩ := gd h
  refine z_aload_n dX12_copy_160 rfl 0 rfl ?_
  refine gf_12_46 rfl dX12_copy_161 ?_
  refine z_bipush (v := 14) dX12_copy_164 (by decide) ?_
  refine z_iload_n dX12_copy_166 rfl 2 rfl ?_
  refine z_imul dX12_copy_167 ?_
  refine z_iload_n dX12_copy_168 rfl 3 rfl ?_
  refine z_iadd dX12_copy_169 ?_
  refine z_aload_n dX12_copy_170 rfl 0 rfl ?_
  refine gf_12_46 rfl dX12_copy_171 ?_
  refine z_bipush (v := 14) dX12_copy_174 (by decide) ?_
  refine z_iload_n dX12_copy_176 rfl 1 rfl ?_
  refine z_imul dX12_copy_177 ?_
  refine z_iload_n dX12_copy_178 rfl 3 rfl ?_
  refine z_iadd dX12_copy_179 ?_
  obtain ⟨g30, h⟩ := gd h
  refine ia_3_11 (inb_in g29) dX12_copy_180 ?_
  refine is_3_11 (inb_in g30) dX12_copy_181 ?_
  exact zb_X12_copy_182 hrc110 h
def F_X12_copy_138 (rc110 : Int32 → Int32 → Int32 → Mm → Option (Mm)) (x1 : Int32) (x2 : Int32) (x3 : Int32) (σ : Mm) : Option (Mm) := (if inb (((14 : Int32) * x1) + x3) 70 = true then (if inb (((14 : Int32) * x2) + x3) 70 = true then (F_X12_copy_160 rc110 x1 x2 x3 (setA σ 3 0 10 (upd (mA σ 3 0 10) (((14 : Int32) * x2) + x3).toNatClampNeg (mA σ 3 0 10 (((14 : Int32) * x1) + x3).toNatClampNeg)))) else none) else none)
set_option maxRecDepth 20000 in
theorem zb_X12_copy_138 {S : Shp} {rc110 : Int32 → Int32 → Int32 → Mm → Option (Mm)} (hrc110 : ∀ {x1 : Int32} {x2 : Int32} {x3 : Int32} {σ : Mm} {r : Mm}, rc110 x1 x2 x3 σ = some r → Z m_X12_copy S (Qv r) 110 [(0, .ref (sL S 3 0 0)), (1, .int (x1)), (2, .int (x2)), (3, .int (x3))] [] σ) {x1 : Int32} {x2 : Int32} {x3 : Int32} {σ : Mm} {r : Mm} (h : F_X12_copy_138 rc110 x1 x2 x3 σ = some r) : Z m_X12_copy S (Qv r) 138 [(0, .ref (sL S 3 0 0)), (1, .int (x1)), (2, .int (x2)), (3, .int (x3))] [] σ := by
  unfold F_X12_copy_138 at h
  obtain ⟨g23, h⟩ := gd h
  refine z_aload_n dX12_copy_138 rfl 0 rfl ?_
  refine gf_12_43 rfl dX12_copy_139 ?_
  refine z_bipush (v := 14) dX12_copy_142 (by decide) ?_
  refine z_iload_n dX12_copy_144 rfl 2 rfl ?_
  refine z_imul dX12_copy_145 ?_
  refine z_iload_n dX12_copy_146 rfl 3 rfl ?_
  refine z_iadd dX12_copy_147 ?_
  refine z_aload_n dX12_copy_148 rfl 0 rfl ?_
  refine gf_12_43 rfl dX12_copy_149 ?_
  refine z_bipush (v := 14) dX12_copy_152 (by decide) ?_
  refine z_iload_n dX12_copy_154 rfl 1 rfl ?_
  refine z_imul dX12_copy_155 ?_
  refine z_iload_n dX12_copy_156 rfl 3 rfl ?_
  refine z_iadd dX12_copy_157 ?_
  obtain ⟨g24, h⟩ := gd h
  refine ia_3_10 (inb_in g23) dX12_copy_158 ?_
  refine is_3_10 (inb_in g24) dX12_copy_159 ?_
  exact zb_X12_copy_160 hrc110 h
def B_X12_copy_110 (rc110 : Int32 → Int32 → Int32 → Mm → Option (Mm)) (x1 : Int32) (x2 : Int32) (x3 : Int32) (σ : Mm) : Option (Mm) := (if (14 : Int32) ≤ x3 then (F_X12_copy_234 FU x1 x2 0 σ) else (if inb (((14 : Int32) * x1) + x3) 70 = true then (if inb (((14 : Int32) * x2) + x3) 70 = true then (F_X12_copy_138 rc110 x1 x2 x3 (setA σ 3 0 9 (upd (mA σ 3 0 9) (((14 : Int32) * x2) + x3).toNatClampNeg (vp_nar .boolean (mA σ 3 0 9 (((14 : Int32) * x1) + x3).toNatClampNeg))))) else none) else none))
set_option maxRecDepth 20000 in
theorem zB_X12_copy_110 {S : Shp} {rc110 : Int32 → Int32 → Int32 → Mm → Option (Mm)} (hrc110 : ∀ {x1 : Int32} {x2 : Int32} {x3 : Int32} {σ : Mm} {r : Mm}, rc110 x1 x2 x3 σ = some r → Z m_X12_copy S (Qv r) 110 [(0, .ref (sL S 3 0 0)), (1, .int (x1)), (2, .int (x2)), (3, .int (x3))] [] σ) {x1 : Int32} {x2 : Int32} {x3 : Int32} {σ : Mm} {r : Mm} (h : B_X12_copy_110 rc110 x1 x2 x3 σ = some r) : Z m_X12_copy S (Qv r) 110 [(0, .ref (sL S 3 0 0)), (1, .int (x1)), (2, .int (x2)), (3, .int (x3))] [] σ := by
  unfold B_X12_copy_110 at h
  refine z_iload_n dX12_copy_110 rfl 3 rfl ?_
  refine z_bipush (v := 14) dX12_copy_111 (by decide) ?_
  refine z_icmp_ge (tgt := 232) dX12_copy_113 (by decide) (fun q => ?_) (fun q => ?_)
  · have h := (if_pos q).symm.trans h
    refine z_iconst (v := 0) dX12_copy_232 (by decide) ?_
    refine z_istore_n (lv' := [(0, .ref (sL S 3 0 0)), (1, .int (x1)), (2, .int (x2)), (3, .int (0))]) dX12_copy_233 rfl (by decide) [1, 2, 3, 0] rfl ?_
    exact zl_X12_copy_234 FU h
  · have h := (if_neg q).symm.trans h
    obtain ⟨g19, h⟩ := gd h
    refine z_aload_n dX12_copy_116 rfl 0 rfl ?_
    refine gf_12_40 rfl dX12_copy_117 ?_
    refine z_bipush (v := 14) dX12_copy_120 (by decide) ?_
    refine z_iload_n dX12_copy_122 rfl 2 rfl ?_
    refine z_imul dX12_copy_123 ?_
    refine z_iload_n dX12_copy_124 rfl 3 rfl ?_
    refine z_iadd dX12_copy_125 ?_
    refine z_aload_n dX12_copy_126 rfl 0 rfl ?_
    refine gf_12_40 rfl dX12_copy_127 ?_
    refine z_bipush (v := 14) dX12_copy_130 (by decide) ?_
    refine z_iload_n dX12_copy_132 rfl 1 rfl ?_
    refine z_imul dX12_copy_133 ?_
    refine z_iload_n dX12_copy_134 rfl 3 rfl ?_
    refine z_iadd dX12_copy_135 ?_
    obtain ⟨g20, h⟩ := gd h
    refine ia_3_9 (inb_in g19) dX12_copy_136 ?_
    refine is_3_9 (inb_in g20) dX12_copy_137 ?_
    exact zb_X12_copy_138 hrc110 h
def F_X12_copy_110 : Nat → Int32 → Int32 → Int32 → Mm → Option (Mm)
  | 0 => fun _ _ _ _ => none
  | n + 1 => B_X12_copy_110 (F_X12_copy_110 n)
theorem zl_X12_copy_110 {S : Shp} : ∀ (nn : Nat) {x1 : Int32} {x2 : Int32} {x3 : Int32} {σ : Mm} {r : Mm}, F_X12_copy_110 nn x1 x2 x3 σ = some r → Z m_X12_copy S (Qv r) 110 [(0, .ref (sL S 3 0 0)), (1, .int (x1)), (2, .int (x2)), (3, .int (x3))] [] σ := by
  intro nn
  induction nn with
  | zero => intro x1 x2 x3 σ r h; cases h
  | succ nn ih => intro x1 x2 x3 σ r h; exact zB_X12_copy_110 @ih h
def F_X12_copy_108 (x1 : Int32) (x2 : Int32) (σ : Mm) : Option (Mm) := (F_X12_copy_110 FU x1 x2 0 σ)
set_option maxRecDepth 20000 in
theorem zb_X12_copy_108 {S : Shp} {x1 : Int32} {x2 : Int32} {σ : Mm} {r : Mm} (h : F_X12_copy_108 x1 x2 σ = some r) : Z m_X12_copy S (Qv r) 108 [(0, .ref (sL S 3 0 0)), (1, .int (x1)), (2, .int (x2))] [] σ := by
  unfold F_X12_copy_108 at h
  refine z_iconst (v := 0) dX12_copy_108 (by decide) ?_
  refine z_istore_n (lv' := [(0, .ref (sL S 3 0 0)), (1, .int (x1)), (2, .int (x2)), (3, .int (0))]) dX12_copy_109 rfl (by decide) [1, 2, 3, 0] rfl ?_
  exact zl_X12_copy_110 FU h
def F_X12_copy_96 (x1 : Int32) (x2 : Int32) (σ : Mm) : Option (Mm) := (if inb x1 5 = true then (if inb x2 5 = true then (F_X12_copy_108 x1 x2 (setA σ 3 0 38 (upd (mA σ 3 0 38) x2.toNatClampNeg (mA σ 3 0 38 x1.toNatClampNeg)))) else none) else none)
set_option maxRecDepth 20000 in
theorem zb_X12_copy_96 {S : Shp} {x1 : Int32} {x2 : Int32} {σ : Mm} {r : Mm} (h : F_X12_copy_96 x1 x2 σ = some r) : Z m_X12_copy S (Qv r) 96 [(0, .ref (sL S 3 0 0)), (1, .int (x1)), (2, .int (x2))] [] σ := by
  unfold F_X12_copy_96 at h
  obtain ⟨g17, h⟩ := gd h
  refine z_aload_n dX12_copy_96 rfl 0 rfl ?_
  refine gf_12_127 rfl dX12_copy_97 ?_
  refine z_iload_n dX12_copy_100 rfl 2 rfl ?_
  refine z_aload_n dX12_copy_101 rfl 0 rfl ?_
  refine gf_12_127 rfl dX12_copy_102 ?_
  refine z_iload_n dX12_copy_105 rfl 1 rfl ?_
  obtain ⟨g18, h⟩ := gd h
  refine ia_3_38 (inb_in g17) dX12_copy_106 ?_
  refine is_3_38 (inb_in g18) dX12_copy_107 ?_
  exact zb_X12_copy_108 h
def F_X12_copy_84 (x1 : Int32) (x2 : Int32) (σ : Mm) : Option (Mm) := (if inb x1 5 = true then (if inb x2 5 = true then (F_X12_copy_96 x1 x2 (setA σ 3 0 31 (upd (mA σ 3 0 31) x2.toNatClampNeg (mA σ 3 0 31 x1.toNatClampNeg)))) else none) else none)
set_option maxRecDepth 20000 in
theorem zb_X12_copy_84 {S : Shp} {x1 : Int32} {x2 : Int32} {σ : Mm} {r : Mm} (h : F_X12_copy_84 x1 x2 σ = some r) : Z m_X12_copy S (Qv r) 84 [(0, .ref (sL S 3 0 0)), (1, .int (x1)), (2, .int (x2))] [] σ := by
  unfold F_X12_copy_84 at h
  obtain ⟨g15, h⟩ := gd h
  refine z_aload_n dX12_copy_84 rfl 0 rfl ?_
  refine gf_12_106 rfl dX12_copy_85 ?_
  refine z_iload_n dX12_copy_88 rfl 2 rfl ?_
  refine z_aload_n dX12_copy_89 rfl 0 rfl ?_
  refine gf_12_106 rfl dX12_copy_90 ?_
  refine z_iload_n dX12_copy_93 rfl 1 rfl ?_
  obtain ⟨g16, h⟩ := gd h
  refine ia_3_31 (inb_in g15) dX12_copy_94 ?_
  refine is_3_31 (inb_in g16) dX12_copy_95 ?_
  exact zb_X12_copy_96 h
def F_X12_copy_72 (x1 : Int32) (x2 : Int32) (σ : Mm) : Option (Mm) := (if inb x1 5 = true then (if inb x2 5 = true then (F_X12_copy_84 x1 x2 (setA σ 3 0 28 (upd (mA σ 3 0 28) x2.toNatClampNeg (mA σ 3 0 28 x1.toNatClampNeg)))) else none) else none)
set_option maxRecDepth 20000 in
theorem zb_X12_copy_72 {S : Shp} {x1 : Int32} {x2 : Int32} {σ : Mm} {r : Mm} (h : F_X12_copy_72 x1 x2 σ = some r) : Z m_X12_copy S (Qv r) 72 [(0, .ref (sL S 3 0 0)), (1, .int (x1)), (2, .int (x2))] [] σ := by
  unfold F_X12_copy_72 at h
  obtain ⟨g13, h⟩ := gd h
  refine z_aload_n dX12_copy_72 rfl 0 rfl ?_
  refine gf_12_97 rfl dX12_copy_73 ?_
  refine z_iload_n dX12_copy_76 rfl 2 rfl ?_
  refine z_aload_n dX12_copy_77 rfl 0 rfl ?_
  refine gf_12_97 rfl dX12_copy_78 ?_
  refine z_iload_n dX12_copy_81 rfl 1 rfl ?_
  obtain ⟨g14, h⟩ := gd h
  refine ia_3_28 (inb_in g13) dX12_copy_82 ?_
  refine is_3_28 (inb_in g14) dX12_copy_83 ?_
  exact zb_X12_copy_84 h
def F_X12_copy_60 (x1 : Int32) (x2 : Int32) (σ : Mm) : Option (Mm) := (if inb x1 5 = true then (if inb x2 5 = true then (F_X12_copy_72 x1 x2 (setA σ 3 0 25 (upd (mA σ 3 0 25) x2.toNatClampNeg (mA σ 3 0 25 x1.toNatClampNeg)))) else none) else none)
set_option maxRecDepth 20000 in
theorem zb_X12_copy_60 {S : Shp} {x1 : Int32} {x2 : Int32} {σ : Mm} {r : Mm} (h : F_X12_copy_60 x1 x2 σ = some r) : Z m_X12_copy S (Qv r) 60 [(0, .ref (sL S 3 0 0)), (1, .int (x1)), (2, .int (x2))] [] σ := by
  unfold F_X12_copy_60 at h
  obtain ⟨g11, h⟩ := gd h
  refine z_aload_n dX12_copy_60 rfl 0 rfl ?_
  refine gf_12_88 rfl dX12_copy_61 ?_
  refine z_iload_n dX12_copy_64 rfl 2 rfl ?_
  refine z_aload_n dX12_copy_65 rfl 0 rfl ?_
  refine gf_12_88 rfl dX12_copy_66 ?_
  refine z_iload_n dX12_copy_69 rfl 1 rfl ?_
  obtain ⟨g12, h⟩ := gd h
  refine ia_3_25 (inb_in g11) dX12_copy_70 ?_
  refine is_3_25 (inb_in g12) dX12_copy_71 ?_
  exact zb_X12_copy_72 h
def F_X12_copy_48 (x1 : Int32) (x2 : Int32) (σ : Mm) : Option (Mm) := (if inb x1 5 = true then (if inb x2 5 = true then (F_X12_copy_60 x1 x2 (setA σ 3 0 21 (upd (mA σ 3 0 21) x2.toNatClampNeg (mA σ 3 0 21 x1.toNatClampNeg)))) else none) else none)
set_option maxRecDepth 20000 in
theorem zb_X12_copy_48 {S : Shp} {x1 : Int32} {x2 : Int32} {σ : Mm} {r : Mm} (h : F_X12_copy_48 x1 x2 σ = some r) : Z m_X12_copy S (Qv r) 48 [(0, .ref (sL S 3 0 0)), (1, .int (x1)), (2, .int (x2))] [] σ := by
  unfold F_X12_copy_48 at h
  obtain ⟨g9, h⟩ := gd h
  refine z_aload_n dX12_copy_48 rfl 0 rfl ?_
  refine gf_12_76 rfl dX12_copy_49 ?_
  refine z_iload_n dX12_copy_52 rfl 2 rfl ?_
  refine z_aload_n dX12_copy_53 rfl 0 rfl ?_
  refine gf_12_76 rfl dX12_copy_54 ?_
  refine z_iload_n dX12_copy_57 rfl 1 rfl ?_
  obtain ⟨g10, h⟩ := gd h
  refine ia_3_21 (inb_in g9) dX12_copy_58 ?_
  refine is_3_21 (inb_in g10) dX12_copy_59 ?_
  exact zb_X12_copy_60 h
def F_X12_copy_36 (x1 : Int32) (x2 : Int32) (σ : Mm) : Option (Mm) := (if inb x1 5 = true then (if inb x2 5 = true then (F_X12_copy_48 x1 x2 (setA σ 3 0 17 (upd (mA σ 3 0 17) x2.toNatClampNeg (mA σ 3 0 17 x1.toNatClampNeg)))) else none) else none)
set_option maxRecDepth 20000 in
theorem zb_X12_copy_36 {S : Shp} {x1 : Int32} {x2 : Int32} {σ : Mm} {r : Mm} (h : F_X12_copy_36 x1 x2 σ = some r) : Z m_X12_copy S (Qv r) 36 [(0, .ref (sL S 3 0 0)), (1, .int (x1)), (2, .int (x2))] [] σ := by
  unfold F_X12_copy_36 at h
  obtain ⟨g7, h⟩ := gd h
  refine z_aload_n dX12_copy_36 rfl 0 rfl ?_
  refine gf_12_64 rfl dX12_copy_37 ?_
  refine z_iload_n dX12_copy_40 rfl 2 rfl ?_
  refine z_aload_n dX12_copy_41 rfl 0 rfl ?_
  refine gf_12_64 rfl dX12_copy_42 ?_
  refine z_iload_n dX12_copy_45 rfl 1 rfl ?_
  obtain ⟨g8, h⟩ := gd h
  refine ia_3_17 (inb_in g7) dX12_copy_46 ?_
  refine is_3_17 (inb_in g8) dX12_copy_47 ?_
  exact zb_X12_copy_48 h
def F_X12_copy_24 (x1 : Int32) (x2 : Int32) (σ : Mm) : Option (Mm) := (if inb x1 5 = true then (if inb x2 5 = true then (F_X12_copy_36 x1 x2 (setA σ 3 0 14 (upd (mA σ 3 0 14) x2.toNatClampNeg (mA σ 3 0 14 x1.toNatClampNeg)))) else none) else none)
set_option maxRecDepth 20000 in
theorem zb_X12_copy_24 {S : Shp} {x1 : Int32} {x2 : Int32} {σ : Mm} {r : Mm} (h : F_X12_copy_24 x1 x2 σ = some r) : Z m_X12_copy S (Qv r) 24 [(0, .ref (sL S 3 0 0)), (1, .int (x1)), (2, .int (x2))] [] σ := by
  unfold F_X12_copy_24 at h
  obtain ⟨g5, h⟩ := gd h
  refine z_aload_n dX12_copy_24 rfl 0 rfl ?_
  refine gf_12_55 rfl dX12_copy_25 ?_
  refine z_iload_n dX12_copy_28 rfl 2 rfl ?_
  refine z_aload_n dX12_copy_29 rfl 0 rfl ?_
  refine gf_12_55 rfl dX12_copy_30 ?_
  refine z_iload_n dX12_copy_33 rfl 1 rfl ?_
  obtain ⟨g6, h⟩ := gd h
  refine ia_3_14 (inb_in g5) dX12_copy_34 ?_
  refine is_3_14 (inb_in g6) dX12_copy_35 ?_
  exact zb_X12_copy_36 h
def F_X12_copy_12 (x1 : Int32) (x2 : Int32) (σ : Mm) : Option (Mm) := (if inb x1 5 = true then (if inb x2 5 = true then (F_X12_copy_24 x1 x2 (setA σ 3 0 8 (upd (mA σ 3 0 8) x2.toNatClampNeg (mA σ 3 0 8 x1.toNatClampNeg)))) else none) else none)
set_option maxRecDepth 20000 in
theorem zb_X12_copy_12 {S : Shp} {x1 : Int32} {x2 : Int32} {σ : Mm} {r : Mm} (h : F_X12_copy_12 x1 x2 σ = some r) : Z m_X12_copy S (Qv r) 12 [(0, .ref (sL S 3 0 0)), (1, .int (x1)), (2, .int (x2))] [] σ := by
  unfold F_X12_copy_12 at h
  obtain ⟨g3, h⟩ := gd h
  refine z_aload_n dX12_copy_12 rfl 0 rfl ?_
  refine gf_12_37 rfl dX12_copy_13 ?_
  refine z_iload_n dX12_copy_16 rfl 2 rfl ?_
  refine z_aload_n dX12_copy_17 rfl 0 rfl ?_
  refine gf_12_37 rfl dX12_copy_18 ?_
  refine z_iload_n dX12_copy_21 rfl 1 rfl ?_
  obtain ⟨g4, h⟩ := gd h
  refine ia_3_8 (inb_in g3) dX12_copy_22 ?_
  refine is_3_8 (inb_in g4) dX12_copy_23 ?_
  exact zb_X12_copy_24 h
def F_X12_copy (x1 : Int32) (x2 : Int32) (σ : Mm) : Option (Mm) := (if inb x1 5 = true then (if inb x2 5 = true then (F_X12_copy_12 x1 x2 (setA σ 3 0 7 (upd (mA σ 3 0 7) x2.toNatClampNeg (mA σ 3 0 7 x1.toNatClampNeg)))) else none) else none)
set_option maxRecDepth 20000 in
theorem zb_X12_copy {S : Shp} {x1 : Int32} {x2 : Int32} {σ : Mm} {r : Mm} (h : F_X12_copy x1 x2 σ = some r) : Z m_X12_copy S (Qv r) 0 [(0, .ref (sL S 3 0 0)), (1, .int (x1)), (2, .int (x2))] [] σ := by
  unfold F_X12_copy at h
  obtain ⟨g1, h⟩ := gd h
  refine z_aload_n dX12_copy_0 rfl 0 rfl ?_
  refine gf_12_34 rfl dX12_copy_1 ?_
  refine z_iload_n dX12_copy_4 rfl 2 rfl ?_
  refine z_aload_n dX12_copy_5 rfl 0 rfl ?_
  refine gf_12_34 rfl dX12_copy_6 ?_
  refine z_iload_n dX12_copy_9 rfl 1 rfl ?_
  obtain ⟨g2, h⟩ := gd h
  refine ia_3_7 (inb_in g1) dX12_copy_10 ?_
  refine is_3_7 (inb_in g2) dX12_copy_11 ?_
  exact zb_X12_copy_12 h
/-- SkyStonesModel.copy(II)V -/
theorem c_X12_copy {S : Shp} {x1 : Int32} {x2 : Int32} {σ : Mm} {r : Mm} (h : F_X12_copy x1 x2 σ = some r) : Ct m_X12_copy S [.ref (sL S 3 0 0), .int (x1), .int (x2)] σ (Qv r) := Ct.of (by decide +kernel) (Nat.le_of_ble_eq_true rfl) (zb_X12_copy h)
def F_X12_again_30 (σ : Mm) : Option (Int32 × Mm) := some (1, σ)
set_option maxRecDepth 20000 in
theorem zb_X12_again_30 {S : Shp} {σ : Mm} {r : Int32 × Mm} (h : F_X12_again_30 σ = some r) : Z m_X12_again S (Qi r) 30 [] [] σ := by
  unfold F_X12_again_30 at h
  refine z_iconst (v := 1) dX12_again_30 (by decide) ?_
  cases h
  exact z_ireturn dX12_again_31 rfl rfl ⟨rfl, rfl⟩
def F_X12_again (x1 : Int32) (σ : Mm) : Option (Int32 × Mm) := (if x1 < 0 then some (0, σ) else (if (2 : Int32) < x1 then some (0, σ) else (if inb ((2 : Int32) + x1) 5 = true then (if (mA σ 3 0 6 ((2 : Int32) + x1).toNatClampNeg) = 0 then some (0, σ) else (bnv (F_X12_copy ((2 : Int32) + x1) 0 σ) (fun τ => (F_X12_again_30 τ)))) else none)))
set_option maxRecDepth 20000 in
theorem zb_X12_again {S : Shp} {x1 : Int32} {σ : Mm} {r : Int32 × Mm} (h : F_X12_again x1 σ = some r) : Z m_X12_again S (Qi r) 0 [(0, .ref (sL S 3 0 0)), (1, .int (x1))] [] σ := by
  unfold F_X12_again at h
  refine z_iload_n dX12_again_0 rfl 1 rfl ?_
  refine z_if_lt (tgt := 20) dX12_again_1 (by decide) (fun q => ?_) (fun q => ?_)
  · have h := (if_pos q).symm.trans h
    refine z_iconst (v := 0) dX12_again_20 (by decide) ?_
    cases h
    exact z_ireturn dX12_again_21 rfl rfl ⟨rfl, rfl⟩
  · have h := (if_neg q).symm.trans h
    refine z_iload_n dX12_again_4 rfl 1 rfl ?_
    refine z_iconst (v := 2) dX12_again_5 (by decide) ?_
    refine z_icmp_gt (tgt := 20) dX12_again_6 (by decide) (fun q => ?_) (fun q => ?_)
    · have h := (if_pos q).symm.trans h
      refine z_iconst (v := 0) dX12_again_20 (by decide) ?_
      cases h
      exact z_ireturn dX12_again_21 rfl rfl ⟨rfl, rfl⟩
    · have h := (if_neg q).symm.trans h
      obtain ⟨g1, h⟩ := gd h
      refine z_aload_n dX12_again_9 rfl 0 rfl ?_
      refine gf_12_30 rfl dX12_again_10 ?_
      refine z_iconst (v := 2) dX12_again_13 (by decide) ?_
      refine z_iload_n dX12_again_14 rfl 1 rfl ?_
      refine z_iadd dX12_again_15 ?_
      refine ia_3_6 (inb_in g1) dX12_again_16 ?_
      refine z_if_ne (tgt := 22) dX12_again_17 (by decide) (fun q => ?_) (fun q => ?_)
      · have h := (if_neg q).symm.trans h
        refine z_aload_n dX12_again_22 rfl 0 rfl ?_
        refine z_iconst (v := 2) dX12_again_23 (by decide) ?_
        refine z_iload_n dX12_again_24 rfl 1 rfl ?_
        refine z_iadd dX12_again_25 ?_
        refine z_iconst (v := 0) dX12_again_26 (by decide) ?_
        obtain ⟨τ, hc, h⟩ := bnv_e h
        refine z_callV (M' := m_X12_copy) (t := 3) (i := 0) (k := 0) (As := [.int ((2 : Int32) + x1), .int (0)]) (rest := []) kl_12_404 oy_X12_copy ⟨Nat.le_of_ble_eq_true rfl, Nat.le_of_ble_eq_true rfl⟩ rfl rfl rfl rfl (Nat.le_of_ble_eq_true rfl) rfl dX12_again_27 (c_X12_copy hc) (fun v2 τ2 hq => ?_)
        obtain ⟨rfl, hτ⟩ := hq
        subst τ2
        change Z _ _ _ _ _ [] _
        refine Z.lv [] rfl ?_
        exact zb_X12_again_30 h
      · have h := (if_pos q).symm.trans h
        refine z_iconst (v := 0) dX12_again_20 (by decide) ?_
        cases h
        exact z_ireturn dX12_again_21 rfl rfl ⟨rfl, rfl⟩
/-- SkyStonesModel.again(I)Z -/
theorem c_X12_again {S : Shp} {x1 : Int32} {σ : Mm} {r : Int32 × Mm} (h : F_X12_again x1 σ = some r) : Ct m_X12_again S [.ref (sL S 3 0 0), .int (x1)] σ (Qi r) := Ct.of (by decide +kernel) (Nat.le_of_ble_eq_true rfl) (zb_X12_again h)
def f_X12_plain (x0 : Int32) : Int32 := (if 0 ≤ x0 then x0 else -x0)
set_option maxRecDepth 20000 in
theorem zb_X12_plain {S : Shp} {x0 : Int32} {σ : Mm} {r : Int32} (h : f_X12_plain x0 = r) : Z m_X12_plain S (Qi (r, σ)) 0 [(0, .int (x0))] [] σ := by
  unfold f_X12_plain at h
  refine z_iload_n dX12_plain_0 rfl 0 rfl ?_
  refine z_if_ge (tgt := 9) dX12_plain_1 (by decide) (fun q => ?_) (fun q => ?_)
  · have h := (if_pos q).symm.trans h
    refine z_iload_n dX12_plain_9 rfl 0 rfl ?_
    subst h
    exact z_ireturn dX12_plain_10 rfl rfl ⟨rfl, rfl⟩
  · have h := (if_neg q).symm.trans h
    refine z_iload_n dX12_plain_4 rfl 0 rfl ?_
    refine z_ineg dX12_plain_5 ?_
    refine z_goto (tgt := 10) dX12_plain_6 (by decide) ?_
    subst h
    exact z_ireturn dX12_plain_10 rfl rfl ⟨rfl, rfl⟩
/-- SkyStonesModel.plain(I)I -/
theorem c_X12_plain {S : Shp} {x0 : Int32} {σ : Mm} {r : Int32} (h : f_X12_plain x0 = r) : Ct m_X12_plain S [.int (x0)] σ (Qi (r, σ)) := Ct.of (by decide +kernel) (Nat.le_of_ble_eq_true rfl) (zb_X12_plain h)
def f_X12_apart (x0 : Int32) (x1 : Int32) : Int32 := (if (f_X12_plain (x0 - x1)) ≤ (180 : Int32) then f_X12_plain (x0 - x1) else (360 : Int32) - (f_X12_plain (x0 - x1)))
set_option maxRecDepth 20000 in
theorem zb_X12_apart {S : Shp} {x0 : Int32} {x1 : Int32} {σ : Mm} {r : Int32} (h : f_X12_apart x0 x1 = r) : Z m_X12_apart S (Qi (r, σ)) 0 [(0, .int (x0)), (1, .int (x1))] [] σ := by
  unfold f_X12_apart at h
  refine z_iload_n dX12_apart_0 rfl 0 rfl ?_
  refine z_iload_n dX12_apart_1 rfl 1 rfl ?_
  refine z_isub dX12_apart_2 ?_
  refine z_callS (M' := m_X12_plain) (As := [.int (x0 - x1)]) (rest := []) kl_12_425 oy_X12_plain ⟨Nat.le_of_ble_eq_true rfl, Nat.le_of_ble_eq_true rfl⟩ rfl (Nat.le_of_ble_eq_true rfl) rfl dX12_apart_3 (c_X12_plain rfl) (fun v τ hq => ?_)
  obtain ⟨rfl, hτ⟩ := hq
  subst τ
  change Z _ _ _ _ _ [.int (f_X12_plain (x0 - x1))] _
  refine z_istore_n (lv' := [(0, .int (x0)), (1, .int (x1)), (2, .int (f_X12_plain (x0 - x1)))]) dX12_apart_6 rfl (by decide) [1, 2, 0] rfl ?_
  refine z_iload_n dX12_apart_7 rfl 2 rfl ?_
  refine z_sipush (v := 180) dX12_apart_8 (by decide) ?_
  refine z_icmp_le (tgt := 22) dX12_apart_11 (by decide) (fun q => ?_) (fun q => ?_)
  · have h := (if_pos q).symm.trans h
    refine z_iload_n dX12_apart_22 rfl 2 rfl ?_
    subst h
    exact z_ireturn dX12_apart_23 rfl rfl ⟨rfl, rfl⟩
  · have h := (if_neg q).symm.trans h
    refine z_sipush (v := 360) dX12_apart_14 (by decide) ?_
    refine z_iload_n dX12_apart_17 rfl 2 rfl ?_
    refine z_isub dX12_apart_18 ?_
    refine z_goto (tgt := 23) dX12_apart_19 (by decide) ?_
    subst h
    exact z_ireturn dX12_apart_23 rfl rfl ⟨rfl, rfl⟩
/-- SkyStonesModel.apart(II)I -/
theorem c_X12_apart {S : Shp} {x0 : Int32} {x1 : Int32} {σ : Mm} {r : Int32} (h : f_X12_apart x0 x1 = r) : Ct m_X12_apart S [.int (x0), .int (x1)] σ (Qi (r, σ)) := Ct.of (by decide +kernel) (Nat.le_of_ble_eq_true rfl) (zb_X12_apart h)
def F_X12_hitBy_65 (rc6 : Int32 → Int32 → Int32 → Int32 → Int32 → Mm → Option (Int32 × Mm)) (x1 : Int32) (x2 : Int32) (x3 : Int32) (x4 : Int32) (x5 : Int32) (σ : Mm) : Option (Int32 × Mm) := (rc6 x1 x2 x3 x4 (x5 + 1) σ)
set_option maxRecDepth 20000 in
theorem zb_X12_hitBy_65 {S : Shp} {rc6 : Int32 → Int32 → Int32 → Int32 → Int32 → Mm → Option (Int32 × Mm)} (hrc6 : ∀ {x1 : Int32} {x2 : Int32} {x3 : Int32} {x4 : Int32} {x5 : Int32} {σ : Mm} {r : Int32 × Mm}, rc6 x1 x2 x3 x4 x5 σ = some r → Z m_X12_hitBy S (Qi r) 6 [(0, .ref (sL S 3 0 0)), (1, .int (x1)), (2, .int (x2)), (3, .int (x3)), (4, .int (x4)), (5, .int (x5))] [] σ) {x1 : Int32} {x2 : Int32} {x3 : Int32} {x4 : Int32} {x5 : Int32} {σ : Mm} {r : Int32 × Mm} (h : F_X12_hitBy_65 rc6 x1 x2 x3 x4 x5 σ = some r) : Z m_X12_hitBy S (Qi r) 65 [(0, .ref (sL S 3 0 0)), (1, .int (x1)), (2, .int (x2)), (3, .int (x3)), (4, .int (x4)), (5, .int (x5))] [] σ := by
  unfold F_X12_hitBy_65 at h
  refine z_iinc (j := 5) (v := x5 + 1) (lv' := [(0, .ref (sL S 3 0 0)), (1, .int (x1)), (2, .int (x2)), (3, .int (x3)), (4, .int (x4)), (5, .int (x5 + 1))]) dX12_hitBy_65 rfl rfl (by decide) [1, 2, 3, 4, 5, 0] rfl ?_
  refine z_goto (tgt := 6) dX12_hitBy_68 (by decide) ?_
  exact hrc6 h
def F_X12_hitBy_53 (rc6 : Int32 → Int32 → Int32 → Int32 → Int32 → Mm → Option (Int32 × Mm)) (x1 : Int32) (x2 : Int32) (x3 : Int32) (x4 : Int32) (x5 : Int32) (s0 : Int32) (s1 : Int32) (σ : Mm) : Option (Int32 × Mm) := (if s0 < s1 then (F_X12_hitBy_65 rc6 x1 x2 x3 x4 x5 σ) else (F_X12_hitBy_65 rc6 x1 x2 x3 (x4 ||| ((1 : Int32) <<< (x5 &&& 31))) x5 σ))
set_option maxRecDepth 20000 in
theorem zb_X12_hitBy_53 {S : Shp} {rc6 : Int32 → Int32 → Int32 → Int32 → Int32 → Mm → Option (Int32 × Mm)} (hrc6 : ∀ {x1 : Int32} {x2 : Int32} {x3 : Int32} {x4 : Int32} {x5 : Int32} {σ : Mm} {r : Int32 × Mm}, rc6 x1 x2 x3 x4 x5 σ = some r → Z m_X12_hitBy S (Qi r) 6 [(0, .ref (sL S 3 0 0)), (1, .int (x1)), (2, .int (x2)), (3, .int (x3)), (4, .int (x4)), (5, .int (x5))] [] σ) {x1 : Int32} {x2 : Int32} {x3 : Int32} {x4 : Int32} {x5 : Int32} {s0 : Int32} {s1 : Int32} {σ : Mm} {r : Int32 × Mm} (h : F_X12_hitBy_53 rc6 x1 x2 x3 x4 x5 s0 s1 σ = some r) : Z m_X12_hitBy S (Qi r) 53 [(0, .ref (sL S 3 0 0)), (1, .int (x1)), (2, .int (x2)), (3, .int (x3)), (4, .int (x4)), (5, .int (x5))] [.int (s0), .int (s1)] σ := by
  unfold F_X12_hitBy_53 at h
  refine z_icmp_gt (tgt := 65) dX12_hitBy_53 (by decide) (fun q => ?_) (fun q => ?_)
  · have h := (if_pos q).symm.trans h
    exact zb_X12_hitBy_65 hrc6 h
  · have h := (if_neg q).symm.trans h
    refine z_iload dX12_hitBy_56 4 rfl ?_
    refine z_iconst (v := 1) dX12_hitBy_58 (by decide) ?_
    refine z_iload dX12_hitBy_59 5 rfl ?_
    refine z_ishl dX12_hitBy_61 ?_
    refine z_ior dX12_hitBy_62 ?_
    refine z_istore (lv' := [(0, .ref (sL S 3 0 0)), (1, .int (x1)), (2, .int (x2)), (3, .int (x3)), (4, .int (x4 ||| ((1 : Int32) <<< (x5 &&& 31)))), (5, .int (x5))]) dX12_hitBy_63 (by decide) [1, 2, 3, 4, 0, 5] rfl ?_
    exact zb_X12_hitBy_65 hrc6 h
def B_X12_hitBy_6 (rc6 : Int32 → Int32 → Int32 → Int32 → Int32 → Mm → Option (Int32 × Mm)) (x1 : Int32) (x2 : Int32) (x3 : Int32) (x4 : Int32) (x5 : Int32) (σ : Mm) : Option (Int32 × Mm) := (if inb 0 5 = true then (if (mA σ 3 0 21 (0 : Int32).toNatClampNeg) ≤ x5 then some (x4, σ) else (if inb x5 5 = true then (if x3 = 0 then (if inb x5 25 = true then (F_X12_hitBy_53 rc6 x1 x2 x3 x4 x5 (x2 + (mA σ 3 0 22 x5.toNatClampNeg)) (f_X12_apart x1 (mA σ 3 0 58 x5.toNatClampNeg)) σ) else none) else (if inb x5 25 = true then (F_X12_hitBy_53 rc6 x1 x2 x3 x4 x5 (x2 - (mA σ 3 0 22 x5.toNatClampNeg)) (f_X12_apart x1 (mA σ 3 0 58 x5.toNatClampNeg)) σ) else none)) else none)) else none)
set_option maxRecDepth 20000 in
theorem zB_X12_hitBy_6 {S : Shp} {rc6 : Int32 → Int32 → Int32 → Int32 → Int32 → Mm → Option (Int32 × Mm)} (hrc6 : ∀ {x1 : Int32} {x2 : Int32} {x3 : Int32} {x4 : Int32} {x5 : Int32} {σ : Mm} {r : Int32 × Mm}, rc6 x1 x2 x3 x4 x5 σ = some r → Z m_X12_hitBy S (Qi r) 6 [(0, .ref (sL S 3 0 0)), (1, .int (x1)), (2, .int (x2)), (3, .int (x3)), (4, .int (x4)), (5, .int (x5))] [] σ) {x1 : Int32} {x2 : Int32} {x3 : Int32} {x4 : Int32} {x5 : Int32} {σ : Mm} {r : Int32 × Mm} (h : B_X12_hitBy_6 rc6 x1 x2 x3 x4 x5 σ = some r) : Z m_X12_hitBy S (Qi r) 6 [(0, .ref (sL S 3 0 0)), (1, .int (x1)), (2, .int (x2)), (3, .int (x3)), (4, .int (x4)), (5, .int (x5))] [] σ := by
  unfold B_X12_hitBy_6 at h
  obtain ⟨g1, h⟩ := gd h
  refine z_iload dX12_hitBy_6 5 rfl ?_
  refine z_aload_n dX12_hitBy_8 rfl 0 rfl ?_
  refine gf_12_76 rfl dX12_hitBy_9 ?_
  refine z_iconst (v := 0) dX12_hitBy_12 (by decide) ?_
  refine ia_3_21 (inb_in g1) dX12_hitBy_13 ?_
  refine z_icmp_ge (tgt := 71) dX12_hitBy_14 (by decide) (fun q => ?_) (fun q => ?_)
  · have h := (if_pos q).symm.trans h
    refine z_iload dX12_hitBy_71 4 rfl ?_
    cases h
    exact z_ireturn dX12_hitBy_73 rfl rfl ⟨rfl, rfl⟩
  · have h := (if_neg q).symm.trans h
    obtain ⟨g2, h⟩ := gd h
    refine z_iload_n dX12_hitBy_17 rfl 1 rfl ?_
    refine z_aload_n dX12_hitBy_18 rfl 0 rfl ?_
    refine gf_12_187 rfl dX12_hitBy_19 ?_
    refine z_iload dX12_hitBy_22 5 rfl ?_
    refine ia_3_58 (inb_in g2) dX12_hitBy_24 ?_
    refine z_callS (M' := m_X12_apart) (As := [.int (x1), .int (mA σ 3 0 58 x5.toNatClampNeg)]) (rest := []) kl_12_478 oy_X12_apart ⟨Nat.le_of_ble_eq_true rfl, Nat.le_of_ble_eq_true rfl⟩ rfl (Nat.le_of_ble_eq_true rfl) rfl dX12_hitBy_25 (c_X12_apart rfl) (fun v τ hq => ?_)
    obtain ⟨rfl, hτ⟩ := hq
    subst τ
    change Z _ _ _ _ _ [.int (f_X12_apart x1 (mA σ 3 0 58 x5.toNatClampNeg))] _
    refine z_iload_n dX12_hitBy_28 rfl 3 rfl ?_
    refine z_if_eq (tgt := 44) dX12_hitBy_29 (by decide) (fun q => ?_) (fun q => ?_)
    · have h := (if_pos q).symm.trans h
      obtain ⟨g3, h⟩ := gd h
      refine z_iload_n dX12_hitBy_44 rfl 2 rfl ?_
      refine z_aload_n dX12_hitBy_45 rfl 0 rfl ?_
      refine gf_12_79 rfl dX12_hitBy_46 ?_
      refine z_iload dX12_hitBy_49 5 rfl ?_
      refine ia_3_22 (inb_in g3) dX12_hitBy_51 ?_
      refine z_iadd dX12_hitBy_52 ?_
      exact zb_X12_hitBy_53 hrc6 h
    · have h := (if_neg q).symm.trans h
      obtain ⟨g4, h⟩ := gd h
      refine z_iload_n dX12_hitBy_32 rfl 2 rfl ?_
      refine z_aload_n dX12_hitBy_33 rfl 0 rfl ?_
      refine gf_12_79 rfl dX12_hitBy_34 ?_
      refine z_iload dX12_hitBy_37 5 rfl ?_
      refine ia_3_22 (inb_in g4) dX12_hitBy_39 ?_
      refine z_isub dX12_hitBy_40 ?_
      refine z_goto (tgt := 53) dX12_hitBy_41 (by decide) ?_
      exact zb_X12_hitBy_53 hrc6 h
def F_X12_hitBy_6 : Nat → Int32 → Int32 → Int32 → Int32 → Int32 → Mm → Option (Int32 × Mm)
  | 0 => fun _ _ _ _ _ _ => none
  | n + 1 => B_X12_hitBy_6 (F_X12_hitBy_6 n)
theorem zl_X12_hitBy_6 {S : Shp} : ∀ (nn : Nat) {x1 : Int32} {x2 : Int32} {x3 : Int32} {x4 : Int32} {x5 : Int32} {σ : Mm} {r : Int32 × Mm}, F_X12_hitBy_6 nn x1 x2 x3 x4 x5 σ = some r → Z m_X12_hitBy S (Qi r) 6 [(0, .ref (sL S 3 0 0)), (1, .int (x1)), (2, .int (x2)), (3, .int (x3)), (4, .int (x4)), (5, .int (x5))] [] σ := by
  intro nn
  induction nn with
  | zero => intro x1 x2 x3 x4 x5 σ r h; cases h
  | succ nn ih => intro x1 x2 x3 x4 x5 σ r h; exact zB_X12_hitBy_6 @ih h
def F_X12_hitBy (x1 : Int32) (x2 : Int32) (x3 : Int32) (σ : Mm) : Option (Int32 × Mm) := (F_X12_hitBy_6 FU x1 x2 x3 0 0 σ)
set_option maxRecDepth 20000 in
theorem zb_X12_hitBy {S : Shp} {x1 : Int32} {x2 : Int32} {x3 : Int32} {σ : Mm} {r : Int32 × Mm} (h : F_X12_hitBy x1 x2 x3 σ = some r) : Z m_X12_hitBy S (Qi r) 0 [(0, .ref (sL S 3 0 0)), (1, .int (x1)), (2, .int (x2)), (3, .int (x3))] [] σ := by
  unfold F_X12_hitBy at h
  refine z_iconst (v := 0) dX12_hitBy_0 (by decide) ?_
  refine z_istore (lv' := [(0, .ref (sL S 3 0 0)), (1, .int (x1)), (2, .int (x2)), (3, .int (x3)), (4, .int (0))]) dX12_hitBy_1 (by decide) [1, 2, 3, 4, 0] rfl ?_
  refine z_iconst (v := 0) dX12_hitBy_3 (by decide) ?_
  refine z_istore (lv' := [(0, .ref (sL S 3 0 0)), (1, .int (x1)), (2, .int (x2)), (3, .int (x3)), (4, .int (0)), (5, .int (0))]) dX12_hitBy_4 (by decide) [1, 2, 3, 4, 5, 0] rfl ?_
  exact zl_X12_hitBy_6 FU h
/-- SkyStonesModel.hitBy(IIZ)I -/
theorem c_X12_hitBy {S : Shp} {x1 : Int32} {x2 : Int32} {x3 : Int32} {σ : Mm} {r : Int32 × Mm} (h : F_X12_hitBy x1 x2 x3 σ = some r) : Ct m_X12_hitBy S [.ref (sL S 3 0 0), .int (x1), .int (x2), .int (x3)] σ (Qi r) := Ct.of (by decide +kernel) (Nat.le_of_ble_eq_true rfl) (zb_X12_hitBy h)
def f_X12_turned (x0 : Int32) (x1 : Int32) : Int32 := (x0 + x1) - (x0 + x1) / (360 : Int32) * (360 : Int32)
set_option maxRecDepth 20000 in
theorem zb_X12_turned {S : Shp} {x0 : Int32} {x1 : Int32} {σ : Mm} {r : Int32} (h : f_X12_turned x0 x1 = r) : Z m_X12_turned S (Qi (r, σ)) 0 [(0, .int (x0)), (1, .int (x1))] [] σ := by
  unfold f_X12_turned at h
  refine z_iload_n dX12_turned_0 rfl 0 rfl ?_
  refine z_iload_n dX12_turned_1 rfl 1 rfl ?_
  refine z_iadd dX12_turned_2 ?_
  refine z_sipush (v := 360) dX12_turned_3 (by decide) ?_
  refine z_irem dX12_turned_6 (by decide) ?_
  subst h
  exact z_ireturn dX12_turned_7 rfl rfl ⟨rfl, rfl⟩
/-- SkyStonesModel.turned(II)I -/
theorem c_X12_turned {S : Shp} {x0 : Int32} {x1 : Int32} {σ : Mm} {r : Int32} (h : f_X12_turned x0 x1 = r) : Ct m_X12_turned S [.int (x0), .int (x1)] σ (Qi (r, σ)) := Ct.of (by decide +kernel) (Nat.le_of_ble_eq_true rfl) (zb_X12_turned h)
def F_X12_hitsOf_54 (rc6 : Int32 → Int32 → Int32 → Int32 → Int32 → Mm → Option (Int32 × Mm)) (x1 : Int32) (x2 : Int32) (x3 : Int32) (x4 : Int32) (x5 : Int32) (σ : Mm) : Option (Int32 × Mm) := (rc6 x1 x2 x3 x4 (x5 + 1) σ)
set_option maxRecDepth 20000 in
theorem zb_X12_hitsOf_54 {S : Shp} {rc6 : Int32 → Int32 → Int32 → Int32 → Int32 → Mm → Option (Int32 × Mm)} (hrc6 : ∀ {x1 : Int32} {x2 : Int32} {x3 : Int32} {x4 : Int32} {x5 : Int32} {σ : Mm} {r : Int32 × Mm}, rc6 x1 x2 x3 x4 x5 σ = some r → Z m_X12_hitsOf S (Qi r) 6 [(0, .ref (sL S 3 0 0)), (1, .int (x1)), (2, .int (x2)), (3, .int (x3)), (4, .int (x4)), (5, .int (x5))] [] σ) {x1 : Int32} {x2 : Int32} {x3 : Int32} {x4 : Int32} {x5 : Int32} {σ : Mm} {r : Int32 × Mm} (h : F_X12_hitsOf_54 rc6 x1 x2 x3 x4 x5 σ = some r) : Z m_X12_hitsOf S (Qi r) 54 [(0, .ref (sL S 3 0 0)), (1, .int (x1)), (2, .int (x2)), (3, .int (x3)), (4, .int (x4)), (5, .int (x5))] [] σ := by
  unfold F_X12_hitsOf_54 at h
  refine z_iinc (j := 5) (v := x5 + 1) (lv' := [(0, .ref (sL S 3 0 0)), (1, .int (x1)), (2, .int (x2)), (3, .int (x3)), (4, .int (x4)), (5, .int (x5 + 1))]) dX12_hitsOf_54 rfl rfl (by decide) [1, 2, 3, 4, 5, 0] rfl ?_
  refine z_goto (tgt := 6) dX12_hitsOf_57 (by decide) ?_
  exact hrc6 h
def F_X12_hitsOf_46 (rc6 : Int32 → Int32 → Int32 → Int32 → Int32 → Mm → Option (Int32 × Mm)) (x1 : Int32) (x2 : Int32) (x3 : Int32) (x4 : Int32) (x5 : Int32) (s0 : Int32) (σ : Mm) : Option (Int32 × Mm) := (if (s0 &&& x1) = 0 then (F_X12_hitsOf_54 rc6 x1 x2 x3 x4 x5 σ) else (F_X12_hitsOf_54 rc6 x1 x2 x3 (x4 + 1) x5 σ))
set_option maxRecDepth 20000 in
theorem zb_X12_hitsOf_46 {S : Shp} {rc6 : Int32 → Int32 → Int32 → Int32 → Int32 → Mm → Option (Int32 × Mm)} (hrc6 : ∀ {x1 : Int32} {x2 : Int32} {x3 : Int32} {x4 : Int32} {x5 : Int32} {σ : Mm} {r : Int32 × Mm}, rc6 x1 x2 x3 x4 x5 σ = some r → Z m_X12_hitsOf S (Qi r) 6 [(0, .ref (sL S 3 0 0)), (1, .int (x1)), (2, .int (x2)), (3, .int (x3)), (4, .int (x4)), (5, .int (x5))] [] σ) {x1 : Int32} {x2 : Int32} {x3 : Int32} {x4 : Int32} {x5 : Int32} {s0 : Int32} {σ : Mm} {r : Int32 × Mm} (h : F_X12_hitsOf_46 rc6 x1 x2 x3 x4 x5 s0 σ = some r) : Z m_X12_hitsOf S (Qi r) 46 [(0, .ref (sL S 3 0 0)), (1, .int (x1)), (2, .int (x2)), (3, .int (x3)), (4, .int (x4)), (5, .int (x5))] [.int (s0)] σ := by
  unfold F_X12_hitsOf_46 at h
  refine z_iload_n dX12_hitsOf_46 rfl 1 rfl ?_
  refine z_iand dX12_hitsOf_47 ?_
  refine z_if_eq (tgt := 54) dX12_hitsOf_48 (by decide) (fun q => ?_) (fun q => ?_)
  · have h := (if_pos q).symm.trans h
    exact zb_X12_hitsOf_54 hrc6 h
  · have h := (if_neg q).symm.trans h
    refine z_iinc (j := 4) (v := x4 + 1) (lv' := [(0, .ref (sL S 3 0 0)), (1, .int (x1)), (2, .int (x2)), (3, .int (x3)), (4, .int (x4 + 1)), (5, .int (x5))]) dX12_hitsOf_51 rfl rfl (by decide) [1, 2, 3, 4, 0, 5] rfl ?_
    exact zb_X12_hitsOf_54 hrc6 h
def B_X12_hitsOf_6 (rc6 : Int32 → Int32 → Int32 → Int32 → Int32 → Mm → Option (Int32 × Mm)) (x1 : Int32) (x2 : Int32) (x3 : Int32) (x4 : Int32) (x5 : Int32) (σ : Mm) : Option (Int32 × Mm) := (if (196 : Int32) ≤ x5 then some (x4, σ) else (if inb x5 196 = true then (if (mA σ 3 0 55 x5.toNatClampNeg) = 0 then (F_X12_hitsOf_54 rc6 x1 x2 x3 x4 x5 σ) else (if inb x5 196 = true then (if inb 0 5 = true then (bnd (F_X12_hitBy (f_X12_turned (mA σ 3 0 53 x5.toNatClampNeg) x2) (mA σ 3 0 7 (0 : Int32).toNatClampNeg) x3 σ) (fun v τ => (F_X12_hitsOf_46 rc6 x1 x2 x3 x4 x5 v τ))) else none) else none)) else none))
set_option maxRecDepth 20000 in
theorem zB_X12_hitsOf_6 {S : Shp} {rc6 : Int32 → Int32 → Int32 → Int32 → Int32 → Mm → Option (Int32 × Mm)} (hrc6 : ∀ {x1 : Int32} {x2 : Int32} {x3 : Int32} {x4 : Int32} {x5 : Int32} {σ : Mm} {r : Int32 × Mm}, rc6 x1 x2 x3 x4 x5 σ = some r → Z m_X12_hitsOf S (Qi r) 6 [(0, .ref (sL S 3 0 0)), (1, .int (x1)), (2, .int (x2)), (3, .int (x3)), (4, .int (x4)), (5, .int (x5))] [] σ) {x1 : Int32} {x2 : Int32} {x3 : Int32} {x4 : Int32} {x5 : Int32} {σ : Mm} {r : Int32 × Mm} (h : B_X12_hitsOf_6 rc6 x1 x2 x3 x4 x5 σ = some r) : Z m_X12_hitsOf S (Qi r) 6 [(0, .ref (sL S 3 0 0)), (1, .int (x1)), (2, .int (x2)), (3, .int (x3)), (4, .int (x4)), (5, .int (x5))] [] σ := by
  unfold B_X12_hitsOf_6 at h
  refine z_iload dX12_hitsOf_6 5 rfl ?_
  refine z_sipush (v := 196) dX12_hitsOf_8 (by decide) ?_
  refine z_icmp_ge (tgt := 60) dX12_hitsOf_11 (by decide) (fun q => ?_) (fun q => ?_)
  · have h := (if_pos q).symm.trans h
    refine z_iload dX12_hitsOf_60 4 rfl ?_
    cases h
    exact z_ireturn dX12_hitsOf_62 rfl rfl ⟨rfl, rfl⟩
  · have h := (if_neg q).symm.trans h
    obtain ⟨g1, h⟩ := gd h
    refine z_aload_n dX12_hitsOf_14 rfl 0 rfl ?_
    refine gf_12_178 rfl dX12_hitsOf_15 ?_
    refine z_iload dX12_hitsOf_18 5 rfl ?_
    refine ia_3_55 (inb_in g1) dX12_hitsOf_20 ?_
    refine z_if_eq (tgt := 54) dX12_hitsOf_21 (by decide) (fun q => ?_) (fun q => ?_)
    · have h := (if_pos q).symm.trans h
      exact zb_X12_hitsOf_54 hrc6 h
    · have h := (if_neg q).symm.trans h
      obtain ⟨g2, h⟩ := gd h
      refine z_aload_n dX12_hitsOf_24 rfl 0 rfl ?_
      refine z_aload_n dX12_hitsOf_25 rfl 0 rfl ?_
      refine gf_12_172 rfl dX12_hitsOf_26 ?_
      refine z_iload dX12_hitsOf_29 5 rfl ?_
      obtain ⟨g3, h⟩ := gd h
      refine ia_3_53 (inb_in g2) dX12_hitsOf_31 ?_
      refine z_iload_n dX12_hitsOf_32 rfl 2 rfl ?_
      refine z_callS (M' := m_X12_turned) (As := [.int (mA σ 3 0 53 x5.toNatClampNeg), .int (x2)]) (rest := [.ref (sL S 3 0 0)]) kl_12_488 oy_X12_turned ⟨Nat.le_of_ble_eq_true rfl, Nat.le_of_ble_eq_true rfl⟩ rfl (Nat.le_of_ble_eq_true rfl) rfl dX12_hitsOf_33 (c_X12_turned rfl) (fun v τ hq => ?_)
      obtain ⟨rfl, hτ⟩ := hq
      subst τ
      change Z _ _ _ _ _ [.int (f_X12_turned (mA σ 3 0 53 x5.toNatClampNeg) x2), .ref (sL S 3 0 0)] _
      refine z_aload_n dX12_hitsOf_36 rfl 0 rfl ?_
      refine gf_12_34 rfl dX12_hitsOf_37 ?_
      refine z_iconst (v := 0) dX12_hitsOf_40 (by decide) ?_
      refine ia_3_7 (inb_in g3) dX12_hitsOf_41 ?_
      refine z_iload_n dX12_hitsOf_42 rfl 3 rfl ?_
      obtain ⟨v, τ, hc, h⟩ := bnd_e h
      refine z_callV (M' := m_X12_hitBy) (t := 3) (i := 0) (k := 0) (As := [.int (f_X12_turned (mA σ 3 0 53 x5.toNatClampNeg) x2), .int (mA σ 3 0 7 (0 : Int32).toNatClampNeg), .int (x3)]) (rest := []) kl_12_484 oy_X12_hitBy ⟨Nat.le_of_ble_eq_true rfl, Nat.le_of_ble_eq_true rfl⟩ rfl rfl rfl rfl (Nat.le_of_ble_eq_true rfl) rfl dX12_hitsOf_43 (c_X12_hitBy hc) (fun v2 τ2 hq => ?_)
      obtain ⟨rfl, hτ⟩ := hq
      subst τ2
      change Z _ _ _ _ _ [.int (v)] _
      exact zb_X12_hitsOf_46 hrc6 h
def F_X12_hitsOf_6 : Nat → Int32 → Int32 → Int32 → Int32 → Int32 → Mm → Option (Int32 × Mm)
  | 0 => fun _ _ _ _ _ _ => none
  | n + 1 => B_X12_hitsOf_6 (F_X12_hitsOf_6 n)
theorem zl_X12_hitsOf_6 {S : Shp} : ∀ (nn : Nat) {x1 : Int32} {x2 : Int32} {x3 : Int32} {x4 : Int32} {x5 : Int32} {σ : Mm} {r : Int32 × Mm}, F_X12_hitsOf_6 nn x1 x2 x3 x4 x5 σ = some r → Z m_X12_hitsOf S (Qi r) 6 [(0, .ref (sL S 3 0 0)), (1, .int (x1)), (2, .int (x2)), (3, .int (x3)), (4, .int (x4)), (5, .int (x5))] [] σ := by
  intro nn
  induction nn with
  | zero => intro x1 x2 x3 x4 x5 σ r h; cases h
  | succ nn ih => intro x1 x2 x3 x4 x5 σ r h; exact zB_X12_hitsOf_6 @ih h
def F_X12_hitsOf (x1 : Int32) (x2 : Int32) (x3 : Int32) (σ : Mm) : Option (Int32 × Mm) := (F_X12_hitsOf_6 FU x1 x2 x3 0 0 σ)
set_option maxRecDepth 20000 in
theorem zb_X12_hitsOf {S : Shp} {x1 : Int32} {x2 : Int32} {x3 : Int32} {σ : Mm} {r : Int32 × Mm} (h : F_X12_hitsOf x1 x2 x3 σ = some r) : Z m_X12_hitsOf S (Qi r) 0 [(0, .ref (sL S 3 0 0)), (1, .int (x1)), (2, .int (x2)), (3, .int (x3))] [] σ := by
  unfold F_X12_hitsOf at h
  refine z_iconst (v := 0) dX12_hitsOf_0 (by decide) ?_
  refine z_istore (lv' := [(0, .ref (sL S 3 0 0)), (1, .int (x1)), (2, .int (x2)), (3, .int (x3)), (4, .int (0))]) dX12_hitsOf_1 (by decide) [1, 2, 3, 4, 0] rfl ?_
  refine z_iconst (v := 0) dX12_hitsOf_3 (by decide) ?_
  refine z_istore (lv' := [(0, .ref (sL S 3 0 0)), (1, .int (x1)), (2, .int (x2)), (3, .int (x3)), (4, .int (0)), (5, .int (0))]) dX12_hitsOf_4 (by decide) [1, 2, 3, 4, 5, 0] rfl ?_
  exact zl_X12_hitsOf_6 FU h
/-- SkyStonesModel.hitsOf(IIZ)I -/
theorem c_X12_hitsOf {S : Shp} {x1 : Int32} {x2 : Int32} {x3 : Int32} {σ : Mm} {r : Int32 × Mm} (h : F_X12_hitsOf x1 x2 x3 σ = some r) : Ct m_X12_hitsOf S [.ref (sL S 3 0 0), .int (x1), .int (x2), .int (x3)] σ (Qi r) := Ct.of (by decide +kernel) (Nat.le_of_ble_eq_true rfl) (zb_X12_hitsOf h)
def F_X12_isKnown (x1 : Int32) (σ : Mm) : Option (Int32 × Mm) := (if x1 < 0 then some (0, σ) else (if inb 0 5 = true then (if (mA σ 3 0 38 (0 : Int32).toNatClampNeg) < x1 then some (0, σ) else some (1, σ)) else none))
set_option maxRecDepth 20000 in
theorem zb_X12_isKnown {S : Shp} {x1 : Int32} {σ : Mm} {r : Int32 × Mm} (h : F_X12_isKnown x1 σ = some r) : Z m_X12_isKnown S (Qi r) 0 [(0, .ref (sL S 3 0 0)), (1, .int (x1))] [] σ := by
  unfold F_X12_isKnown at h
  refine z_iload_n dX12_isKnown_0 rfl 1 rfl ?_
  refine z_if_lt (tgt := 18) dX12_isKnown_1 (by decide) (fun q => ?_) (fun q => ?_)
  · have h := (if_pos q).symm.trans h
    refine z_iconst (v := 0) dX12_isKnown_18 (by decide) ?_
    cases h
    exact z_ireturn dX12_isKnown_19 rfl rfl ⟨rfl, rfl⟩
  · have h := (if_neg q).symm.trans h
    obtain ⟨g1, h⟩ := gd h
    refine z_iload_n dX12_isKnown_4 rfl 1 rfl ?_
    refine z_aload_n dX12_isKnown_5 rfl 0 rfl ?_
    refine gf_12_127 rfl dX12_isKnown_6 ?_
    refine z_iconst (v := 0) dX12_isKnown_9 (by decide) ?_
    refine ia_3_38 (inb_in g1) dX12_isKnown_10 ?_
    refine z_icmp_gt (tgt := 18) dX12_isKnown_11 (by decide) (fun q => ?_) (fun q => ?_)
    · have h := (if_pos q).symm.trans h
      refine z_iconst (v := 0) dX12_isKnown_18 (by decide) ?_
      cases h
      exact z_ireturn dX12_isKnown_19 rfl rfl ⟨rfl, rfl⟩
    · have h := (if_neg q).symm.trans h
      refine z_iconst (v := 1) dX12_isKnown_14 (by decide) ?_
      refine z_goto (tgt := 19) dX12_isKnown_15 (by decide) ?_
      cases h
      exact z_ireturn dX12_isKnown_19 rfl rfl ⟨rfl, rfl⟩
/-- SkyStonesModel.isKnown(I)Z -/
theorem c_X12_isKnown {S : Shp} {x1 : Int32} {σ : Mm} {r : Int32 × Mm} (h : F_X12_isKnown x1 σ = some r) : Ct m_X12_isKnown S [.ref (sL S 3 0 0), .int (x1)] σ (Qi r) := Ct.of (by decide +kernel) (Nat.le_of_ble_eq_true rfl) (zb_X12_isKnown h)
def f_X12_isYear (x0 : Int32) : Int32 := (if x0 < 0 then 0 else (if (5000 : Int32) < x0 then 0 else 1))
set_option maxRecDepth 20000 in
theorem zb_X12_isYear {S : Shp} {x0 : Int32} {σ : Mm} {r : Int32} (h : f_X12_isYear x0 = r) : Z m_X12_isYear S (Qi (r, σ)) 0 [(0, .int (x0))] [] σ := by
  unfold f_X12_isYear at h
  refine z_iload_n dX12_isYear_0 rfl 0 rfl ?_
  refine z_if_lt (tgt := 15) dX12_isYear_1 (by decide) (fun q => ?_) (fun q => ?_)
  · have h := (if_pos q).symm.trans h
    refine z_iconst (v := 0) dX12_isYear_15 (by decide) ?_
    subst h
    exact z_ireturn dX12_isYear_16 rfl rfl ⟨rfl, rfl⟩
  · have h := (if_neg q).symm.trans h
    refine z_iload_n dX12_isYear_4 rfl 0 rfl ?_
    refine z_sipush (v := 5000) dX12_isYear_5 (by decide) ?_
    refine z_icmp_gt (tgt := 15) dX12_isYear_8 (by decide) (fun q => ?_) (fun q => ?_)
    · have h := (if_pos q).symm.trans h
      refine z_iconst (v := 0) dX12_isYear_15 (by decide) ?_
      subst h
      exact z_ireturn dX12_isYear_16 rfl rfl ⟨rfl, rfl⟩
    · have h := (if_neg q).symm.trans h
      refine z_iconst (v := 1) dX12_isYear_11 (by decide) ?_
      refine z_goto (tgt := 16) dX12_isYear_12 (by decide) ?_
      subst h
      exact z_ireturn dX12_isYear_16 rfl rfl ⟨rfl, rfl⟩
/-- SkyStonesModel.isYear(I)Z -/
theorem c_X12_isYear {S : Shp} {x0 : Int32} {σ : Mm} {r : Int32} (h : f_X12_isYear x0 = r) : Ct m_X12_isYear S [.int (x0)] σ (Qi (r, σ)) := Ct.of (by decide +kernel) (Nat.le_of_ble_eq_true rfl) (zb_X12_isYear h)
def F_X12_isSet_28 (s0 : Int32) (σ : Mm) : Option (Int32 × Mm) := (if s0 = 0 then some (0, σ) else some (1, σ))
set_option maxRecDepth 20000 in
theorem zb_X12_isSet_28 {S : Shp} {s0 : Int32} {σ : Mm} {r : Int32 × Mm} (h : F_X12_isSet_28 s0 σ = some r) : Z m_X12_isSet S (Qi r) 28 [] [.int (s0)] σ := by
  unfold F_X12_isSet_28 at h
  refine z_if_eq (tgt := 35) dX12_isSet_28 (by decide) (fun q => ?_) (fun q => ?_)
  · have h := (if_pos q).symm.trans h
    refine z_iconst (v := 0) dX12_isSet_35 (by decide) ?_
    cases h
    exact z_ireturn dX12_isSet_36 rfl rfl ⟨rfl, rfl⟩
  · have h := (if_neg q).symm.trans h
    refine z_iconst (v := 1) dX12_isSet_31 (by decide) ?_
    refine z_goto (tgt := 36) dX12_isSet_32 (by decide) ?_
    cases h
    exact z_ireturn dX12_isSet_36 rfl rfl ⟨rfl, rfl⟩
def F_X12_isSet (x1 : Int32) (x2 : Int32) (x3 : Int32) (σ : Mm) : Option (Int32 × Mm) := (if x1 < 0 then some (0, σ) else (if inb 0 5 = true then (if ((1 : Int32) <<< ((mA σ 3 0 21 (0 : Int32).toNatClampNeg) &&& 31)) ≤ x1 then some (0, σ) else (if (f_X12_isYear x2) = 0 then some (0, σ) else (bnd (F_X12_isKnown x3 σ) (fun v τ => (F_X12_isSet_28 v τ))))) else none))
set_option maxRecDepth 20000 in
theorem zb_X12_isSet {S : Shp} {x1 : Int32} {x2 : Int32} {x3 : Int32} {σ : Mm} {r : Int32 × Mm} (h : F_X12_isSet x1 x2 x3 σ = some r) : Z m_X12_isSet S (Qi r) 0 [(0, .ref (sL S 3 0 0)), (1, .int (x1)), (2, .int (x2)), (3, .int (x3))] [] σ := by
  unfold F_X12_isSet at h
  refine z_iload_n dX12_isSet_0 rfl 1 rfl ?_
  refine z_if_lt (tgt := 35) dX12_isSet_1 (by decide) (fun q => ?_) (fun q => ?_)
  · have h := (if_pos q).symm.trans h
    refine z_iconst (v := 0) dX12_isSet_35 (by decide) ?_
    cases h
    exact z_ireturn dX12_isSet_36 rfl rfl ⟨rfl, rfl⟩
  · have h := (if_neg q).symm.trans h
    obtain ⟨g1, h⟩ := gd h
    refine z_iload_n dX12_isSet_4 rfl 1 rfl ?_
    refine z_iconst (v := 1) dX12_isSet_5 (by decide) ?_
    refine z_aload_n dX12_isSet_6 rfl 0 rfl ?_
    refine gf_12_76 rfl dX12_isSet_7 ?_
    refine z_iconst (v := 0) dX12_isSet_10 (by decide) ?_
    refine ia_3_21 (inb_in g1) dX12_isSet_11 ?_
    refine z_ishl dX12_isSet_12 ?_
    refine z_icmp_ge (tgt := 35) dX12_isSet_13 (by decide) (fun q => ?_) (fun q => ?_)
    · have h := (if_pos q).symm.trans h
      refine z_iconst (v := 0) dX12_isSet_35 (by decide) ?_
      cases h
      exact z_ireturn dX12_isSet_36 rfl rfl ⟨rfl, rfl⟩
    · have h := (if_neg q).symm.trans h
      refine z_iload_n dX12_isSet_16 rfl 2 rfl ?_
      refine z_callS (M' := m_X12_isYear) (As := [.int (x2)]) (rest := []) kl_12_472 oy_X12_isYear ⟨Nat.le_of_ble_eq_true rfl, Nat.le_of_ble_eq_true rfl⟩ rfl (Nat.le_of_ble_eq_true rfl) rfl dX12_isSet_17 (c_X12_isYear rfl) (fun v τ hq => ?_)
      obtain ⟨rfl, hτ⟩ := hq
      subst τ
      change Z _ _ _ _ _ [.int (f_X12_isYear x2)] _
      refine z_if_eq (tgt := 35) dX12_isSet_20 (by decide) (fun q => ?_) (fun q => ?_)
      · have h := (if_pos q).symm.trans h
        refine z_iconst (v := 0) dX12_isSet_35 (by decide) ?_
        cases h
        exact z_ireturn dX12_isSet_36 rfl rfl ⟨rfl, rfl⟩
      · have h := (if_neg q).symm.trans h
        refine z_aload_n dX12_isSet_23 rfl 0 rfl ?_
        refine z_iload_n dX12_isSet_24 rfl 3 rfl ?_
        obtain ⟨v, τ, hc, h⟩ := bnd_e h
        refine z_callV (M' := m_X12_isKnown) (t := 3) (i := 0) (k := 0) (As := [.int (x3)]) (rest := []) kl_12_457 oy_X12_isKnown ⟨Nat.le_of_ble_eq_true rfl, Nat.le_of_ble_eq_true rfl⟩ rfl rfl rfl rfl (Nat.le_of_ble_eq_true rfl) rfl dX12_isSet_25 (c_X12_isKnown hc) (fun v2 τ2 hq => ?_)
        obtain ⟨rfl, hτ⟩ := hq
        subst τ2
        change Z _ _ _ _ _ [.int (v)] _
        refine Z.lv [] rfl ?_
        exact zb_X12_isSet_28 h
/-- SkyStonesModel.isSet(III)Z -/
theorem c_X12_isSet {S : Shp} {x1 : Int32} {x2 : Int32} {x3 : Int32} {σ : Mm} {r : Int32 × Mm} (h : F_X12_isSet x1 x2 x3 σ = some r) : Ct m_X12_isSet S [.ref (sL S 3 0 0), .int (x1), .int (x2), .int (x3)] σ (Qi r) := Ct.of (by decide +kernel) (Nat.le_of_ble_eq_true rfl) (zb_X12_isSet h)
def F_X12_degreeOf_129 (s0 : Int32) (σ : Mm) : Option (Int32 × Mm) := (if s0 = (360 : Int32) then some (0, σ) else some (s0, σ))
set_option maxRecDepth 20000 in
theorem zb_X12_degreeOf_129 {S : Shp} {s0 : Int32} {σ : Mm} {r : Int32 × Mm} (h : F_X12_degreeOf_129 s0 σ = some r) : Z m_X12_degreeOf S (Qi r) 129 [] [.int (s0)] σ := by
  unfold F_X12_degreeOf_129 at h
  refine z_istore (lv' := [(5, .int (s0))]) dX12_degreeOf_129 (by decide) [0] rfl ?_
  refine z_iload dX12_degreeOf_131 0 rfl ?_
  refine z_sipush (v := 360) dX12_degreeOf_133 (by decide) ?_
  refine z_icmp_ne (tgt := 143) dX12_degreeOf_136 (by decide) (fun q => ?_) (fun q => ?_)
  · have h := (if_neg q).symm.trans h
    refine z_iload dX12_degreeOf_143 0 rfl ?_
    cases h
    exact z_ireturn dX12_degreeOf_145 rfl rfl ⟨rfl, rfl⟩
  · have h := (if_pos q).symm.trans h
    refine z_iconst (v := 0) dX12_degreeOf_139 (by decide) ?_
    refine z_goto (tgt := 145) dX12_degreeOf_140 (by decide) ?_
    cases h
    exact z_ireturn dX12_degreeOf_145 rfl rfl ⟨rfl, rfl⟩
def F_X12_degreeOf_60 (x0 : Int32) (x1 : Int32) (x2 : Int32) (x3 : Int32) (x4 : Int32) (σ : Mm) : Option (Int32 × Mm) := (if x0 ≤ 0 then (if 0 ≤ x1 then (if x2 < x3 then (F_X12_degreeOf_129 ((360 : Int32) - x4) σ) else (F_X12_degreeOf_129 ((270 : Int32) + x4) σ)) else (if x3 < x2 then some ((270 : Int32) - x4, σ) else some ((180 : Int32) + x4, σ))) else (if x2 < x3 then some ((180 : Int32) - x4, σ) else some ((90 : Int32) + x4, σ)))
set_option maxRecDepth 20000 in
theorem zb_X12_degreeOf_60 {S : Shp} {x0 : Int32} {x1 : Int32} {x2 : Int32} {x3 : Int32} {x4 : Int32} {σ : Mm} {r : Int32 × Mm} (h : F_X12_degreeOf_60 x0 x1 x2 x3 x4 σ = some r) : Z m_X12_degreeOf S (Qi r) 60 [(0, .int (x0)), (1, .int (x1)), (2, .int (x2)), (3, .int (x3)), (4, .int (x4))] [] σ := by
  unfold F_X12_degreeOf_60 at h
  refine z_iload_n dX12_degreeOf_60 rfl 0 rfl ?_
  refine z_if_le (tgt := 84) dX12_degreeOf_61 (by decide) (fun q => ?_) (fun q => ?_)
  · have h := (if_pos q).symm.trans h
    refine z_iload_n dX12_degreeOf_84 rfl 1 rfl ?_
    refine z_if_ge (tgt := 109) dX12_degreeOf_85 (by decide) (fun q => ?_) (fun q => ?_)
    · have h := (if_pos q).symm.trans h
      refine z_iload_n dX12_degreeOf_109 rfl 3 rfl ?_
      refine z_iload_n dX12_degreeOf_110 rfl 2 rfl ?_
      refine z_icmp_gt (tgt := 123) dX12_degreeOf_111 (by decide) (fun q => ?_) (fun q => ?_)
      · have h := (if_pos q).symm.trans h
        refine z_sipush (v := 360) dX12_degreeOf_123 (by decide) ?_
        refine z_iload dX12_degreeOf_126 4 rfl ?_
        refine z_isub dX12_degreeOf_128 ?_
        refine Z.lv [] rfl ?_
        exact zb_X12_degreeOf_129 h
      · have h := (if_neg q).symm.trans h
        refine z_sipush (v := 270) dX12_degreeOf_114 (by decide) ?_
        refine z_iload dX12_degreeOf_117 4 rfl ?_
        refine z_iadd dX12_degreeOf_119 ?_
        refine z_goto (tgt := 129) dX12_degreeOf_120 (by decide) ?_
        refine Z.lv [] rfl ?_
        exact zb_X12_degreeOf_129 h
    · have h := (if_neg q).symm.trans h
      refine z_iload_n dX12_degreeOf_88 rfl 2 rfl ?_
      refine z_iload_n dX12_degreeOf_89 rfl 3 rfl ?_
      refine z_icmp_gt (tgt := 102) dX12_degreeOf_90 (by decide) (fun q => ?_) (fun q => ?_)
      · have h := (if_pos q).symm.trans h
        refine z_sipush (v := 270) dX12_degreeOf_102 (by decide) ?_
        refine z_iload dX12_degreeOf_105 4 rfl ?_
        refine z_isub dX12_degreeOf_107 ?_
        cases h
        exact z_ireturn dX12_degreeOf_108 rfl rfl ⟨rfl, rfl⟩
      · have h := (if_neg q).symm.trans h
        refine z_sipush (v := 180) dX12_degreeOf_93 (by decide) ?_
        refine z_iload dX12_degreeOf_96 4 rfl ?_
        refine z_iadd dX12_degreeOf_98 ?_
        refine z_goto (tgt := 108) dX12_degreeOf_99 (by decide) ?_
        cases h
        exact z_ireturn dX12_degreeOf_108 rfl rfl ⟨rfl, rfl⟩
  · have h := (if_neg q).symm.trans h
    refine z_iload_n dX12_degreeOf_64 rfl 3 rfl ?_
    refine z_iload_n dX12_degreeOf_65 rfl 2 rfl ?_
    refine z_icmp_gt (tgt := 77) dX12_degreeOf_66 (by decide) (fun q => ?_) (fun q => ?_)
    · have h := (if_pos q).symm.trans h
      refine z_sipush (v := 180) dX12_degreeOf_77 (by decide) ?_
      refine z_iload dX12_degreeOf_80 4 rfl ?_
      refine z_isub dX12_degreeOf_82 ?_
      cases h
      exact z_ireturn dX12_degreeOf_83 rfl rfl ⟨rfl, rfl⟩
    · have h := (if_neg q).symm.trans h
      refine z_bipush (v := 90) dX12_degreeOf_69 (by decide) ?_
      refine z_iload dX12_degreeOf_71 4 rfl ?_
      refine z_iadd dX12_degreeOf_73 ?_
      refine z_goto (tgt := 83) dX12_degreeOf_74 (by decide) ?_
      cases h
      exact z_ireturn dX12_degreeOf_83 rfl rfl ⟨rfl, rfl⟩
def F_X12_degreeOf_33 (x0 : Int32) (x1 : Int32) (x2 : Int32) (x3 : Int32) (s0 : Int32) (s1 : Int32) (σ : Mm) : Option (Int32 × Mm) := (if ¬ s0 = 0 then (if x0 < 0 then (F_X12_degreeOf_60 x0 x1 x2 x3 (s1 / s0) σ) else (if x1 ≤ 0 then (F_X12_degreeOf_60 x0 x1 x2 x3 (s1 / s0) σ) else (if x3 < x2 then some ((90 : Int32) - (s1 / s0), σ) else some (s1 / s0, σ)))) else none)
set_option maxRecDepth 20000 in
theorem zb_X12_degreeOf_33 {S : Shp} {x0 : Int32} {x1 : Int32} {x2 : Int32} {x3 : Int32} {s0 : Int32} {s1 : Int32} {σ : Mm} {r : Int32 × Mm} (h : F_X12_degreeOf_33 x0 x1 x2 x3 s0 s1 σ = some r) : Z m_X12_degreeOf S (Qi r) 33 [(0, .int (x0)), (1, .int (x1)), (2, .int (x2)), (3, .int (x3))] [.int (s0), .int (s1)] σ := by
  unfold F_X12_degreeOf_33 at h
  obtain ⟨g1, h⟩ := gd h
  refine z_idiv dX12_degreeOf_33 g1 ?_
  refine z_istore (lv' := [(0, .int (x0)), (1, .int (x1)), (2, .int (x2)), (3, .int (x3)), (4, .int (s1 / s0))]) dX12_degreeOf_34 (by decide) [1, 2, 3, 4, 0] rfl ?_
  refine z_iload_n dX12_degreeOf_36 rfl 0 rfl ?_
  refine z_if_lt (tgt := 60) dX12_degreeOf_37 (by decide) (fun q => ?_) (fun q => ?_)
  · have h := (if_pos q).symm.trans h
    exact zb_X12_degreeOf_60 h
  · have h := (if_neg q).symm.trans h
    refine z_iload_n dX12_degreeOf_40 rfl 1 rfl ?_
    refine z_if_le (tgt := 60) dX12_degreeOf_41 (by decide) (fun q => ?_) (fun q => ?_)
    · have h := (if_pos q).symm.trans h
      exact zb_X12_degreeOf_60 h
    · have h := (if_neg q).symm.trans h
      refine z_iload_n dX12_degreeOf_44 rfl 2 rfl ?_
      refine z_iload_n dX12_degreeOf_45 rfl 3 rfl ?_
      refine z_icmp_gt (tgt := 54) dX12_degreeOf_46 (by decide) (fun q => ?_) (fun q => ?_)
      · have h := (if_pos q).symm.trans h
        refine z_bipush (v := 90) dX12_degreeOf_54 (by decide) ?_
        refine z_iload dX12_degreeOf_56 4 rfl ?_
        refine z_isub dX12_degreeOf_58 ?_
        cases h
        exact z_ireturn dX12_degreeOf_59 rfl rfl ⟨rfl, rfl⟩
      · have h := (if_neg q).symm.trans h
        refine z_iload dX12_degreeOf_49 4 rfl ?_
        refine z_goto (tgt := 59) dX12_degreeOf_51 (by decide) ?_
        cases h
        exact z_ireturn dX12_degreeOf_59 rfl rfl ⟨rfl, rfl⟩
def F_X12_degreeOf_22 (x0 : Int32) (x1 : Int32) (x2 : Int32) (x3 : Int32) (s0 : Int32) (s1 : Int32) (σ : Mm) : Option (Int32 × Mm) := (if x2 ≤ x3 then (F_X12_degreeOf_33 x0 x1 x2 x3 x3 (s1 * s0) σ) else (F_X12_degreeOf_33 x0 x1 x2 x3 x2 (s1 * s0) σ))
set_option maxRecDepth 20000 in
theorem zb_X12_degreeOf_22 {S : Shp} {x0 : Int32} {x1 : Int32} {x2 : Int32} {x3 : Int32} {s0 : Int32} {s1 : Int32} {σ : Mm} {r : Int32 × Mm} (h : F_X12_degreeOf_22 x0 x1 x2 x3 s0 s1 σ = some r) : Z m_X12_degreeOf S (Qi r) 22 [(0, .int (x0)), (1, .int (x1)), (2, .int (x2)), (3, .int (x3))] [.int (s0), .int (s1)] σ := by
  unfold F_X12_degreeOf_22 at h
  refine z_imul dX12_degreeOf_22 ?_
  refine z_iload_n dX12_degreeOf_23 rfl 2 rfl ?_
  refine z_iload_n dX12_degreeOf_24 rfl 3 rfl ?_
  refine z_icmp_le (tgt := 32) dX12_degreeOf_25 (by decide) (fun q => ?_) (fun q => ?_)
  · have h := (if_pos q).symm.trans h
    refine z_iload_n dX12_degreeOf_32 rfl 3 rfl ?_
    exact zb_X12_degreeOf_33 h
  · have h := (if_neg q).symm.trans h
    refine z_iload_n dX12_degreeOf_28 rfl 2 rfl ?_
    refine z_goto (tgt := 33) dX12_degreeOf_29 (by decide) ?_
    exact zb_X12_degreeOf_33 h
def F_X12_degreeOf (x0 : Int32) (x1 : Int32) (σ : Mm) : Option (Int32 × Mm) := (if (f_X12_plain x1) ≤ (f_X12_plain x0) then (F_X12_degreeOf_22 x0 x1 (f_X12_plain x0) (f_X12_plain x1) (f_X12_plain x1) 45 σ) else (F_X12_degreeOf_22 x0 x1 (f_X12_plain x0) (f_X12_plain x1) (f_X12_plain x0) 45 σ))
set_option maxRecDepth 20000 in
theorem zb_X12_degreeOf {S : Shp} {x0 : Int32} {x1 : Int32} {σ : Mm} {r : Int32 × Mm} (h : F_X12_degreeOf x0 x1 σ = some r) : Z m_X12_degreeOf S (Qi r) 0 [(0, .int (x0)), (1, .int (x1))] [] σ := by
  unfold F_X12_degreeOf at h
  refine z_iload_n dX12_degreeOf_0 rfl 0 rfl ?_
  refine z_callS (M' := m_X12_plain) (As := [.int (x0)]) (rest := []) kl_12_425 oy_X12_plain ⟨Nat.le_of_ble_eq_true rfl, Nat.le_of_ble_eq_true rfl⟩ rfl (Nat.le_of_ble_eq_true rfl) rfl dX12_degreeOf_1 (c_X12_plain rfl) (fun v τ hq => ?_)
  obtain ⟨rfl, hτ⟩ := hq
  subst τ
  change Z _ _ _ _ _ [.int (f_X12_plain x0)] _
  refine z_istore_n (lv' := [(0, .int (x0)), (1, .int (x1)), (2, .int (f_X12_plain x0))]) dX12_degreeOf_4 rfl (by decide) [1, 2, 0] rfl ?_
  refine z_iload_n dX12_degreeOf_5 rfl 1 rfl ?_
  refine z_callS (M' := m_X12_plain) (As := [.int (x1)]) (rest := []) kl_12_425 oy_X12_plain ⟨Nat.le_of_ble_eq_true rfl, Nat.le_of_ble_eq_true rfl⟩ rfl (Nat.le_of_ble_eq_true rfl) rfl dX12_degreeOf_6 (c_X12_plain rfl) (fun v τ hq => ?_)
  obtain ⟨rfl, hτ⟩ := hq
  subst τ
  change Z _ _ _ _ _ [.int (f_X12_plain x1)] _
  refine z_istore_n (lv' := [(0, .int (x0)), (1, .int (x1)), (2, .int (f_X12_plain x0)), (3, .int (f_X12_plain x1))]) dX12_degreeOf_9 rfl (by decide) [1, 2, 3, 0] rfl ?_
  refine z_bipush (v := 45) dX12_degreeOf_10 (by decide) ?_
  refine z_iload_n dX12_degreeOf_12 rfl 2 rfl ?_
  refine z_iload_n dX12_degreeOf_13 rfl 3 rfl ?_
  refine z_icmp_ge (tgt := 21) dX12_degreeOf_14 (by decide) (fun q => ?_) (fun q => ?_)
  · have h := (if_pos q).symm.trans h
    refine z_iload_n dX12_degreeOf_21 rfl 3 rfl ?_
    exact zb_X12_degreeOf_22 h
  · have h := (if_neg q).symm.trans h
    refine z_iload_n dX12_degreeOf_17 rfl 2 rfl ?_
    refine z_goto (tgt := 22) dX12_degreeOf_18 (by decide) ?_
    exact zb_X12_degreeOf_22 h
/-- SkyStonesModel.degreeOf(II)I -/
theorem c_X12_degreeOf {S : Shp} {x0 : Int32} {x1 : Int32} {σ : Mm} {r : Int32 × Mm} (h : F_X12_degreeOf x0 x1 σ = some r) : Ct m_X12_degreeOf S [.int (x0), .int (x1)] σ (Qi r) := Ct.of (by decide +kernel) (Nat.le_of_ble_eq_true rfl) (zb_X12_degreeOf h)
def F_X12_sum_166 (rc10 : Int32 → Int32 → Int32 → Mm → Option (Int32 × Mm)) (x2 : Int32) (x3 : Int32) (x4 : Int32) (σ : Mm) : Option (Int32 × Mm) := (rc10 x2 x3 (x4 + 1) σ)
set_option maxRecDepth 20000 in
theorem zb_X12_sum_166 {S : Shp} {rc10 : Int32 → Int32 → Int32 → Mm → Option (Int32 × Mm)} (hrc10 : ∀ {x2 : Int32} {x3 : Int32} {x4 : Int32} {σ : Mm} {r : Int32 × Mm}, rc10 x2 x3 x4 σ = some r → Z m_X12_sum S (Qi r) 10 [(0, .ref (sL S 3 0 0)), (2, .int (x2)), (3, .int (x3)), (4, .int (x4))] [] σ) {x2 : Int32} {x3 : Int32} {x4 : Int32} {σ : Mm} {r : Int32 × Mm} (h : F_X12_sum_166 rc10 x2 x3 x4 σ = some r) : Z m_X12_sum S (Qi r) 166 [(0, .ref (sL S 3 0 0)), (2, .int (x2)), (3, .int (x3)), (4, .int (x4))] [] σ := by
  unfold F_X12_sum_166 at h
  refine z_iinc (j := 3) (v := x4 + 1) (lv' := [(0, .ref (sL S 3 0 0)), (2, .int (x2)), (3, .int (x3)), (4, .int (x4 + 1))]) dX12_sum_166 rfl rfl (by decide) [1, 2, 3, 0] rfl ?_
  refine z_goto (tgt := 10) dX12_sum_169 (by decide) ?_
  exact hrc10 h
def F_X12_sum_165 (rc10 : Int32 → Int32 → Int32 → Mm → Option (Int32 × Mm)) (x2 : Int32) (x3 : Int32) (x4 : Int32) (s0 : Int32) (s1 : Int32) (σ : Mm) : Option (Int32 × Mm) := (if inb s1 500 = true then (F_X12_sum_166 rc10 x2 x3 x4 (setA σ 3 0 57 (upd (mA σ 3 0 57) s1.toNatClampNeg s0))) else none)
set_option maxRecDepth 20000 in
theorem zb_X12_sum_165 {S : Shp} {rc10 : Int32 → Int32 → Int32 → Mm → Option (Int32 × Mm)} (hrc10 : ∀ {x2 : Int32} {x3 : Int32} {x4 : Int32} {σ : Mm} {r : Int32 × Mm}, rc10 x2 x3 x4 σ = some r → Z m_X12_sum S (Qi r) 10 [(0, .ref (sL S 3 0 0)), (2, .int (x2)), (3, .int (x3)), (4, .int (x4))] [] σ) {x2 : Int32} {x3 : Int32} {x4 : Int32} {s0 : Int32} {s1 : Int32} {σ : Mm} {r : Int32 × Mm} (h : F_X12_sum_165 rc10 x2 x3 x4 s0 s1 σ = some r) : Z m_X12_sum S (Qi r) 165 [(0, .ref (sL S 3 0 0)), (2, .int (x2)), (3, .int (x3)), (4, .int (x4))] [.int (s0), .int (s1), .ref (sL S 3 0 57)] σ := by
  unfold F_X12_sum_165 at h
  obtain ⟨g10, h⟩ := gd h
  refine is_3_57 (inb_in g10) dX12_sum_165 ?_
  exact zb_X12_sum_166 hrc10 h
def F_X12_sum_111 (rc10 : Int32 → Int32 → Int32 → Mm → Option (Int32 × Mm)) (x2 : Int32) (x3 : Int32) (x4 : Int32) (x5 : Int32) (x6 : Int32) (x7 : Int32) (σ : Mm) : Option (Int32 × Mm) := (if x5 = (2 : Int32) then (F_X12_sum_165 rc10 x2 x3 x4 (x7 + x6) (x3 - (1 : Int32)) σ) else (if x5 = (3 : Int32) then (F_X12_sum_165 rc10 x2 x3 x4 (x7 - x6) (x3 - (1 : Int32)) σ) else (if x5 = (4 : Int32) then (F_X12_sum_165 rc10 x2 x3 x4 (x7 * x6) (x3 - (1 : Int32)) σ) else (if ¬ x6 = 0 then (F_X12_sum_165 rc10 x2 x3 x4 (x7 / x6) (x3 - (1 : Int32)) σ) else none))))
set_option maxRecDepth 20000 in
theorem zb_X12_sum_111 {S : Shp} {rc10 : Int32 → Int32 → Int32 → Mm → Option (Int32 × Mm)} (hrc10 : ∀ {x2 : Int32} {x3 : Int32} {x4 : Int32} {σ : Mm} {r : Int32 × Mm}, rc10 x2 x3 x4 σ = some r → Z m_X12_sum S (Qi r) 10 [(0, .ref (sL S 3 0 0)), (2, .int (x2)), (3, .int (x3)), (4, .int (x4))] [] σ) {x2 : Int32} {x3 : Int32} {x4 : Int32} {x5 : Int32} {x6 : Int32} {x7 : Int32} {σ : Mm} {r : Int32 × Mm} (h : F_X12_sum_111 rc10 x2 x3 x4 x5 x6 x7 σ = some r) : Z m_X12_sum S (Qi r) 111 [(0, .ref (sL S 3 0 0)), (2, .int (x2)), (3, .int (x3)), (4, .int (x4)), (5, .int (x5)), (6, .int (x6)), (7, .int (x7))] [] σ := by
  unfold F_X12_sum_111 at h
  refine z_aload_n dX12_sum_111 rfl 0 rfl ?_
  refine gf_12_184 rfl dX12_sum_112 ?_
  refine z_iload_n dX12_sum_115 rfl 2 rfl ?_
  refine z_iconst (v := 1) dX12_sum_116 (by decide) ?_
  refine z_isub dX12_sum_117 ?_
  refine z_iload dX12_sum_118 4 rfl ?_
  refine z_iconst (v := 2) dX12_sum_120 (by decide) ?_
  refine z_icmp_ne (tgt := 132) dX12_sum_121 (by decide) (fun q => ?_) (fun q => ?_)
  · have h := (if_neg q).symm.trans h
    refine z_iload dX12_sum_132 4 rfl ?_
    refine z_iconst (v := 3) dX12_sum_134 (by decide) ?_
    refine z_icmp_ne (tgt := 146) dX12_sum_135 (by decide) (fun q => ?_) (fun q => ?_)
    · have h := (if_neg q).symm.trans h
      refine z_iload dX12_sum_146 4 rfl ?_
      refine z_iconst (v := 4) dX12_sum_148 (by decide) ?_
      refine z_icmp_ne (tgt := 160) dX12_sum_149 (by decide) (fun q => ?_) (fun q => ?_)
      · have h := (if_neg q).symm.trans h
        obtain ⟨g9, h⟩ := gd h
        refine z_iload dX12_sum_160 6 rfl ?_
        refine z_iload dX12_sum_162 5 rfl ?_
        refine z_idiv dX12_sum_164 g9 ?_
        refine Z.lv [0, 1, 2, 3] rfl ?_
        exact zb_X12_sum_165 hrc10 h
      · have h := (if_pos q).symm.trans h
        refine z_iload dX12_sum_152 6 rfl ?_
        refine z_iload dX12_sum_154 5 rfl ?_
        refine z_imul dX12_sum_156 ?_
        refine z_goto (tgt := 165) dX12_sum_157 (by decide) ?_
        refine Z.lv [0, 1, 2, 3] rfl ?_
        exact zb_X12_sum_165 hrc10 h
    · have h := (if_pos q).symm.trans h
      refine z_iload dX12_sum_138 6 rfl ?_
      refine z_iload dX12_sum_140 5 rfl ?_
      refine z_isub dX12_sum_142 ?_
      refine z_goto (tgt := 165) dX12_sum_143 (by decide) ?_
      refine Z.lv [0, 1, 2, 3] rfl ?_
      exact zb_X12_sum_165 hrc10 h
  · have h := (if_pos q).symm.trans h
    refine z_iload dX12_sum_124 6 rfl ?_
    refine z_iload dX12_sum_126 5 rfl ?_
    refine z_iadd dX12_sum_128 ?_
    refine z_goto (tgt := 165) dX12_sum_129 (by decide) ?_
    refine Z.lv [0, 1, 2, 3] rfl ?_
    exact zb_X12_sum_165 hrc10 h
def F_X12_sum_109 (σ : Mm) : Option (Int32 × Mm) := some (0, σ)
set_option maxRecDepth 20000 in
theorem zb_X12_sum_109 {S : Shp} {σ : Mm} {r : Int32 × Mm} (h : F_X12_sum_109 σ = some r) : Z m_X12_sum S (Qi r) 109 [] [] σ := by
  unfold F_X12_sum_109 at h
  refine z_iconst (v := 0) dX12_sum_109 (by decide) ?_
  cases h
  exact z_ireturn dX12_sum_110 rfl rfl ⟨rfl, rfl⟩
def F_X12_sum_90 (rc10 : Int32 → Int32 → Int32 → Mm → Option (Int32 × Mm)) (x2 : Int32) (x3 : Int32) (x4 : Int32) (x5 : Int32) (x6 : Int32) (x7 : Int32) (σ : Mm) : Option (Int32 × Mm) := (if x5 = (5 : Int32) then (if x6 = 0 then (F_X12_sum_109 (setA σ 3 0 0 (upd (mA σ 3 0 0) 69 1))) else (F_X12_sum_111 rc10 x2 (x3 + (-1)) x4 x5 x6 x7 σ)) else (F_X12_sum_111 rc10 x2 (x3 + (-1)) x4 x5 x6 x7 σ))
set_option maxRecDepth 20000 in
theorem zb_X12_sum_90 {S : Shp} {rc10 : Int32 → Int32 → Int32 → Mm → Option (Int32 × Mm)} (hrc10 : ∀ {x2 : Int32} {x3 : Int32} {x4 : Int32} {σ : Mm} {r : Int32 × Mm}, rc10 x2 x3 x4 σ = some r → Z m_X12_sum S (Qi r) 10 [(0, .ref (sL S 3 0 0)), (2, .int (x2)), (3, .int (x3)), (4, .int (x4))] [] σ) {x2 : Int32} {x3 : Int32} {x4 : Int32} {x5 : Int32} {x6 : Int32} {x7 : Int32} {σ : Mm} {r : Int32 × Mm} (h : F_X12_sum_90 rc10 x2 x3 x4 x5 x6 x7 σ = some r) : Z m_X12_sum S (Qi r) 90 [(0, .ref (sL S 3 0 0)), (2, .int (x2)), (3, .int (x3)), (4, .int (x4)), (5, .int (x5)), (6, .int (x6)), (7, .int (x7))] [] σ := by
  unfold F_X12_sum_90 at h
  refine z_iinc (j := 2) (v := x3 + (-1)) (lv' := [(0, .ref (sL S 3 0 0)), (2, .int (x2)), (3, .int (x3 + (-1))), (4, .int (x4)), (5, .int (x5)), (6, .int (x6)), (7, .int (x7))]) dX12_sum_90 rfl rfl (by decide) [1, 2, 0, 3, 4, 5, 6] rfl ?_
  refine z_iload dX12_sum_93 4 rfl ?_
  refine z_iconst (v := 5) dX12_sum_95 (by decide) ?_
  refine z_icmp_ne (tgt := 111) dX12_sum_96 (by decide) (fun q => ?_) (fun q => ?_)
  · have h := (if_neg q).symm.trans h
    exact zb_X12_sum_111 hrc10 h
  · have h := (if_pos q).symm.trans h
    refine z_iload dX12_sum_99 5 rfl ?_
    refine z_if_ne (tgt := 111) dX12_sum_101 (by decide) (fun q => ?_) (fun q => ?_)
    · have h := (if_neg q).symm.trans h
      exact zb_X12_sum_111 hrc10 h
    · have h := (if_pos q).symm.trans h
      refine z_aload_n dX12_sum_104 rfl 0 rfl ?_
      refine z_iconst (v := 1) dX12_sum_105 (by decide) ?_
      refine pf_12_447 rfl dX12_sum_106 rfl rfl ?_
      refine Z.lv [] rfl ?_
      exact zb_X12_sum_109 h
def F_X12_sum_80 (rc10 : Int32 → Int32 → Int32 → Mm → Option (Int32 × Mm)) (x2 : Int32) (x3 : Int32) (x4 : Int32) (x5 : Int32) (x6 : Int32) (σ : Mm) : Option (Int32 × Mm) := (if inb (x3 - (2 : Int32)) 500 = true then (F_X12_sum_90 rc10 x2 x3 x4 x5 x6 (mA σ 3 0 57 (x3 - (2 : Int32)).toNatClampNeg) σ) else none)
set_option maxRecDepth 20000 in
theorem zb_X12_sum_80 {S : Shp} {rc10 : Int32 → Int32 → Int32 → Mm → Option (Int32 × Mm)} (hrc10 : ∀ {x2 : Int32} {x3 : Int32} {x4 : Int32} {σ : Mm} {r : Int32 × Mm}, rc10 x2 x3 x4 σ = some r → Z m_X12_sum S (Qi r) 10 [(0, .ref (sL S 3 0 0)), (2, .int (x2)), (3, .int (x3)), (4, .int (x4))] [] σ) {x2 : Int32} {x3 : Int32} {x4 : Int32} {x5 : Int32} {x6 : Int32} {σ : Mm} {r : Int32 × Mm} (h : F_X12_sum_80 rc10 x2 x3 x4 x5 x6 σ = some r) : Z m_X12_sum S (Qi r) 80 [(0, .ref (sL S 3 0 0)), (2, .int (x2)), (3, .int (x3)), (4, .int (x4)), (5, .int (x5)), (6, .int (x6))] [] σ := by
  unfold F_X12_sum_80 at h
  obtain ⟨g7, h⟩ := gd h
  refine z_aload_n dX12_sum_80 rfl 0 rfl ?_
  refine gf_12_184 rfl dX12_sum_81 ?_
  refine z_iload_n dX12_sum_84 rfl 2 rfl ?_
  refine z_iconst (v := 2) dX12_sum_85 (by decide) ?_
  refine z_isub dX12_sum_86 ?_
  refine ia_3_57 (inb_in g7) dX12_sum_87 ?_
  refine z_istore (lv' := [(0, .ref (sL S 3 0 0)), (2, .int (x2)), (3, .int (x3)), (4, .int (x4)), (5, .int (x5)), (6, .int (x6)), (7, .int (mA σ 3 0 57 (x3 - (2 : Int32)).toNatClampNeg))]) dX12_sum_88 (by decide) [1, 2, 3, 4, 5, 6, 0] rfl ?_
  exact zb_X12_sum_90 hrc10 h
def F_X12_sum_64 (rc10 : Int32 → Int32 → Int32 → Mm → Option (Int32 × Mm)) (x2 : Int32) (x3 : Int32) (x4 : Int32) (σ : Mm) : Option (Int32 × Mm) := (F_X12_sum_166 rc10 x2 (x3 + 1) x4 σ)
set_option maxRecDepth 20000 in
theorem zb_X12_sum_64 {S : Shp} {rc10 : Int32 → Int32 → Int32 → Mm → Option (Int32 × Mm)} (hrc10 : ∀ {x2 : Int32} {x3 : Int32} {x4 : Int32} {σ : Mm} {r : Int32 × Mm}, rc10 x2 x3 x4 σ = some r → Z m_X12_sum S (Qi r) 10 [(0, .ref (sL S 3 0 0)), (2, .int (x2)), (3, .int (x3)), (4, .int (x4))] [] σ) {x2 : Int32} {x3 : Int32} {x4 : Int32} {σ : Mm} {r : Int32 × Mm} (h : F_X12_sum_64 rc10 x2 x3 x4 σ = some r) : Z m_X12_sum S (Qi r) 64 [(0, .ref (sL S 3 0 0)), (2, .int (x2)), (3, .int (x3)), (4, .int (x4))] [] σ := by
  unfold F_X12_sum_64 at h
  refine z_iinc (j := 2) (v := x3 + 1) (lv' := [(0, .ref (sL S 3 0 0)), (2, .int (x2)), (3, .int (x3 + 1)), (4, .int (x4))]) dX12_sum_64 rfl rfl (by decide) [1, 2, 0, 3] rfl ?_
  refine z_goto (tgt := 166) dX12_sum_67 (by decide) ?_
  exact zb_X12_sum_166 hrc10 h
def F_X12_sum_63 (rc10 : Int32 → Int32 → Int32 → Mm → Option (Int32 × Mm)) (x2 : Int32) (x3 : Int32) (x4 : Int32) (s0 : Int32) (s1 : Int32) (σ : Mm) : Option (Int32 × Mm) := (if inb s1 500 = true then (F_X12_sum_64 rc10 x2 x3 x4 (setA σ 3 0 57 (upd (mA σ 3 0 57) s1.toNatClampNeg s0))) else none)
set_option maxRecDepth 20000 in
theorem zb_X12_sum_63 {S : Shp} {rc10 : Int32 → Int32 → Int32 → Mm → Option (Int32 × Mm)} (hrc10 : ∀ {x2 : Int32} {x3 : Int32} {x4 : Int32} {σ : Mm} {r : Int32 × Mm}, rc10 x2 x3 x4 σ = some r → Z m_X12_sum S (Qi r) 10 [(0, .ref (sL S 3 0 0)), (2, .int (x2)), (3, .int (x3)), (4, .int (x4))] [] σ) {x2 : Int32} {x3 : Int32} {x4 : Int32} {s0 : Int32} {s1 : Int32} {σ : Mm} {r : Int32 × Mm} (h : F_X12_sum_63 rc10 x2 x3 x4 s0 s1 σ = some r) : Z m_X12_sum S (Qi r) 63 [(0, .ref (sL S 3 0 0)), (2, .int (x2)), (3, .int (x3)), (4, .int (x4))] [.int (s0), .int (s1), .ref (sL S 3 0 57)] σ := by
  unfold F_X12_sum_63 at h
  obtain ⟨g8, h⟩ := gd h
  refine is_3_57 (inb_in g8) dX12_sum_63 ?_
  exact zb_X12_sum_64 hrc10 h
def B_X12_sum_10 (rc10 : Int32 → Int32 → Int32 → Mm → Option (Int32 × Mm)) (x2 : Int32) (x3 : Int32) (x4 : Int32) (σ : Mm) : Option (Int32 × Mm) := (if x2 ≤ x4 then (if inb 0 500 = true then some (mA σ 3 0 57 (0 : Int32).toNatClampNeg, σ) else none) else (if inb x4 2500 = true then (if (2 : Int32) ≤ (mA σ 3 0 29 x4.toNatClampNeg) then (if inb (x3 - (1 : Int32)) 500 = true then (F_X12_sum_80 rc10 x2 x3 x4 (mA σ 3 0 29 x4.toNatClampNeg) (mA σ 3 0 57 (x3 - (1 : Int32)).toNatClampNeg) σ) else none) else (if (mA σ 3 0 29 x4.toNatClampNeg) = 0 then (if inb x4 2500 = true then (F_X12_sum_63 rc10 x2 x3 x4 (mA σ 3 0 30 x4.toNatClampNeg) x3 σ) else none) else (if inb x4 2500 = true then (if inb (mA σ 3 0 30 x4.toNatClampNeg) 9 = true then (F_X12_sum_63 rc10 x2 x3 x4 (mA σ 3 0 56 (mA σ 3 0 30 x4.toNatClampNeg).toNatClampNeg) x3 σ) else none) else none))) else none))
set_option maxRecDepth 20000 in
theorem zB_X12_sum_10 {S : Shp} {rc10 : Int32 → Int32 → Int32 → Mm → Option (Int32 × Mm)} (hrc10 : ∀ {x2 : Int32} {x3 : Int32} {x4 : Int32} {σ : Mm} {r : Int32 × Mm}, rc10 x2 x3 x4 σ = some r → Z m_X12_sum S (Qi r) 10 [(0, .ref (sL S 3 0 0)), (2, .int (x2)), (3, .int (x3)), (4, .int (x4))] [] σ) {x2 : Int32} {x3 : Int32} {x4 : Int32} {σ : Mm} {r : Int32 × Mm} (h : B_X12_sum_10 rc10 x2 x3 x4 σ = some r) : Z m_X12_sum S (Qi r) 10 [(0, .ref (sL S 3 0 0)), (2, .int (x2)), (3, .int (x3)), (4, .int (x4))] [] σ := by
  unfold B_X12_sum_10 at h
  refine z_iload dX12_sum_10 3 rfl ?_
  refine z_iload_n dX12_sum_12 rfl 1 rfl ?_
  refine z_icmp_ge (tgt := 172) dX12_sum_13 (by decide) (fun q => ?_) (fun q => ?_)
  · have h := (if_pos q).symm.trans h
    obtain ⟨g1, h⟩ := gd h
    refine z_aload_n dX12_sum_172 rfl 0 rfl ?_
    refine gf_12_184 rfl dX12_sum_173 ?_
    refine z_iconst (v := 0) dX12_sum_176 (by decide) ?_
    refine ia_3_57 (inb_in g1) dX12_sum_177 ?_
    cases h
    exact z_ireturn dX12_sum_178 rfl rfl ⟨rfl, rfl⟩
  · have h := (if_neg q).symm.trans h
    obtain ⟨g2, h⟩ := gd h
    refine z_aload_n dX12_sum_16 rfl 0 rfl ?_
    refine gf_12_100 rfl dX12_sum_17 ?_
    refine z_iload dX12_sum_20 3 rfl ?_
    refine ia_3_29 (inb_in g2) dX12_sum_22 ?_
    refine z_istore (lv' := [(0, .ref (sL S 3 0 0)), (2, .int (x2)), (3, .int (x3)), (4, .int (x4)), (5, .int (mA σ 3 0 29 x4.toNatClampNeg))]) dX12_sum_23 (by decide) [1, 2, 3, 4, 0] rfl ?_
    refine z_iload dX12_sum_25 4 rfl ?_
    refine z_iconst (v := 2) dX12_sum_27 (by decide) ?_
    refine z_icmp_ge (tgt := 70) dX12_sum_28 (by decide) (fun q => ?_) (fun q => ?_)
    · have h := (if_pos q).symm.trans h
      obtain ⟨g3, h⟩ := gd h
      refine z_aload_n dX12_sum_70 rfl 0 rfl ?_
      refine gf_12_184 rfl dX12_sum_71 ?_
      refine z_iload_n dX12_sum_74 rfl 2 rfl ?_
      refine z_iconst (v := 1) dX12_sum_75 (by decide) ?_
      refine z_isub dX12_sum_76 ?_
      refine ia_3_57 (inb_in g3) dX12_sum_77 ?_
      refine z_istore (lv' := [(0, .ref (sL S 3 0 0)), (2, .int (x2)), (3, .int (x3)), (4, .int (x4)), (5, .int (mA σ 3 0 29 x4.toNatClampNeg)), (6, .int (mA σ 3 0 57 (x3 - (1 : Int32)).toNatClampNeg))]) dX12_sum_78 (by decide) [1, 2, 3, 4, 5, 0] rfl ?_
      exact zb_X12_sum_80 hrc10 h
    · have h := (if_neg q).symm.trans h
      refine z_aload_n dX12_sum_31 rfl 0 rfl ?_
      refine gf_12_184 rfl dX12_sum_32 ?_
      refine z_iload_n dX12_sum_35 rfl 2 rfl ?_
      refine z_iload dX12_sum_36 4 rfl ?_
      refine z_if_ne (tgt := 51) dX12_sum_38 (by decide) (fun q => ?_) (fun q => ?_)
      · have h := (if_neg q).symm.trans h
        obtain ⟨g4, h⟩ := gd h
        refine z_aload_n dX12_sum_51 rfl 0 rfl ?_
        refine gf_12_181 rfl dX12_sum_52 ?_
        refine z_aload_n dX12_sum_55 rfl 0 rfl ?_
        refine gf_12_103 rfl dX12_sum_56 ?_
        refine z_iload dX12_sum_59 3 rfl ?_
        obtain ⟨g5, h⟩ := gd h
        refine ia_3_30 (inb_in g4) dX12_sum_61 ?_
        refine ia_3_56 (inb_in g5) dX12_sum_62 ?_
        refine Z.lv [0, 1, 2, 3] rfl ?_
        exact zb_X12_sum_63 hrc10 h
      · have h := (if_pos q).symm.trans h
        obtain ⟨g6, h⟩ := gd h
        refine z_aload_n dX12_sum_41 rfl 0 rfl ?_
        refine gf_12_103 rfl dX12_sum_42 ?_
        refine z_iload dX12_sum_45 3 rfl ?_
        refine ia_3_30 (inb_in g6) dX12_sum_47 ?_
        refine z_goto (tgt := 63) dX12_sum_48 (by decide) ?_
        refine Z.lv [0, 1, 2, 3] rfl ?_
        exact zb_X12_sum_63 hrc10 h
def F_X12_sum_10 : Nat → Int32 → Int32 → Int32 → Mm → Option (Int32 × Mm)
  | 0 => fun _ _ _ _ => none
  | n + 1 => B_X12_sum_10 (F_X12_sum_10 n)
theorem zl_X12_sum_10 {S : Shp} : ∀ (nn : Nat) {x2 : Int32} {x3 : Int32} {x4 : Int32} {σ : Mm} {r : Int32 × Mm}, F_X12_sum_10 nn x2 x3 x4 σ = some r → Z m_X12_sum S (Qi r) 10 [(0, .ref (sL S 3 0 0)), (2, .int (x2)), (3, .int (x3)), (4, .int (x4))] [] σ := by
  intro nn
  induction nn with
  | zero => intro x2 x3 x4 σ r h; cases h
  | succ nn ih => intro x2 x3 x4 σ r h; exact zB_X12_sum_10 @ih h
def F_X12_sum_7 (x1 : Int32) (x2 : Int32) (x3 : Int32) (σ : Mm) : Option (Int32 × Mm) := (F_X12_sum_10 FU x2 x3 x1 σ)
set_option maxRecDepth 20000 in
theorem zb_X12_sum_7 {S : Shp} {x1 : Int32} {x2 : Int32} {x3 : Int32} {σ : Mm} {r : Int32 × Mm} (h : F_X12_sum_7 x1 x2 x3 σ = some r) : Z m_X12_sum S (Qi r) 7 [(0, .ref (sL S 3 0 0)), (1, .int (x1)), (2, .int (x2)), (3, .int (x3))] [] σ := by
  unfold F_X12_sum_7 at h
  refine z_iload_n dX12_sum_7 rfl 1 rfl ?_
  refine z_istore (lv' := [(0, .ref (sL S 3 0 0)), (1, .int (x1)), (2, .int (x2)), (3, .int (x3)), (4, .int (x1))]) dX12_sum_8 (by decide) [1, 2, 3, 4, 0] rfl ?_
  refine Z.lv [0, 2, 3, 4] rfl ?_
  exact zl_X12_sum_10 FU h
def F_X12_sum (x1 : Int32) (x2 : Int32) (σ : Mm) : Option (Int32 × Mm) := (F_X12_sum_7 x1 x2 0 (setA σ 3 0 0 (upd (mA σ 3 0 0) 69 0)))
set_option maxRecDepth 20000 in
theorem zb_X12_sum {S : Shp} {x1 : Int32} {x2 : Int32} {σ : Mm} {r : Int32 × Mm} (h : F_X12_sum x1 x2 σ = some r) : Z m_X12_sum S (Qi r) 0 [(0, .ref (sL S 3 0 0)), (1, .int (x1)), (2, .int (x2))] [] σ := by
  unfold F_X12_sum at h
  refine z_iconst (v := 0) dX12_sum_0 (by decide) ?_
  refine z_istore_n (lv' := [(0, .ref (sL S 3 0 0)), (1, .int (x1)), (2, .int (x2)), (3, .int (0))]) dX12_sum_1 rfl (by decide) [1, 2, 3, 0] rfl ?_
  refine z_aload_n dX12_sum_2 rfl 0 rfl ?_
  refine z_iconst (v := 0) dX12_sum_3 (by decide) ?_
  refine pf_12_447 rfl dX12_sum_4 rfl rfl ?_
  exact zb_X12_sum_7 h
/-- SkyStonesModel.sum(II)I -/
theorem c_X12_sum {S : Shp} {x1 : Int32} {x2 : Int32} {σ : Mm} {r : Int32 × Mm} (h : F_X12_sum x1 x2 σ = some r) : Ct m_X12_sum S [.ref (sL S 3 0 0), .int (x1), .int (x2)] σ (Qi r) := Ct.of (by decide +kernel) (Nat.le_of_ble_eq_true rfl) (zb_X12_sum h)
