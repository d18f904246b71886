/-! ===== the law, cases 8 to 15 ===== -/
theorem dL_law_588 : decode cL_law 588 = .ok (.aload_n 1, 1) := by decide +kernel
theorem dL_law_589 : decode cL_law 589 = .ok (.aload_n 0, 1) := by decide +kernel
theorem dL_law_590 : decode cL_law 590 = .ok (.iload 4, 2) := by decide +kernel
theorem dL_law_592 : decode cL_law 592 = .ok (.iconst 1, 1) := by decide +kernel
theorem dL_law_593 : decode cL_law 593 = .ok (.iadd, 1) := by decide +kernel
theorem dL_law_594 : decode cL_law 594 = .ok (.iaload, 1) := by decide +kernel
theorem dL_law_595 : decode cL_law 595 = .ok (.aload_n 0, 1) := by decide +kernel
theorem dL_law_596 : decode cL_law 596 = .ok (.iload 4, 2) := by decide +kernel
theorem dL_law_598 : decode cL_law 598 = .ok (.iconst 2, 1) := by decide +kernel
theorem dL_law_599 : decode cL_law 599 = .ok (.iadd, 1) := by decide +kernel
theorem dL_law_600 : decode cL_law 600 = .ok (.iaload, 1) := by decide +kernel
theorem dL_law_601 : decode cL_law 601 = .ok (.aload_n 0, 1) := by decide +kernel
theorem dL_law_602 : decode cL_law 602 = .ok (.iload 4, 2) := by decide +kernel
theorem dL_law_604 : decode cL_law 604 = .ok (.iconst 3, 1) := by decide +kernel
theorem dL_law_605 : decode cL_law 605 = .ok (.iadd, 1) := by decide +kernel
theorem dL_law_606 : decode cL_law 606 = .ok (.iaload, 1) := by decide +kernel
theorem dL_law_607 : decode cL_law 607 = .ok (.invokevirtual 70, 3) := by decide +kernel
set_option maxRecDepth 50000 in
theorem lRL_70 : Cond.methodLink RL 70 yX11_run ∈ qw_good := qw_g 754 rfl rfl
theorem dL_law_610 : decode cL_law 610 = .ok (.aload_n 2, 1) := by decide +kernel
theorem dL_law_611 : decode cL_law 611 = .ok (.aload_n 0, 1) := by decide +kernel
theorem dL_law_612 : decode cL_law 612 = .ok (.iload 4, 2) := by decide +kernel
theorem dL_law_614 : decode cL_law 614 = .ok (.iconst 1, 1) := by decide +kernel
theorem dL_law_615 : decode cL_law 615 = .ok (.iadd, 1) := by decide +kernel
theorem dL_law_616 : decode cL_law 616 = .ok (.iaload, 1) := by decide +kernel
theorem dL_law_617 : decode cL_law 617 = .ok (.aload_n 0, 1) := by decide +kernel
theorem dL_law_618 : decode cL_law 618 = .ok (.iload 4, 2) := by decide +kernel
theorem dL_law_620 : decode cL_law 620 = .ok (.iconst 2, 1) := by decide +kernel
theorem dL_law_621 : decode cL_law 621 = .ok (.iadd, 1) := by decide +kernel
theorem dL_law_622 : decode cL_law 622 = .ok (.iaload, 1) := by decide +kernel
theorem dL_law_623 : decode cL_law 623 = .ok (.aload_n 0, 1) := by decide +kernel
theorem dL_law_624 : decode cL_law 624 = .ok (.iload 4, 2) := by decide +kernel
theorem dL_law_626 : decode cL_law 626 = .ok (.iconst 3, 1) := by decide +kernel
theorem dL_law_627 : decode cL_law 627 = .ok (.iadd, 1) := by decide +kernel
theorem dL_law_628 : decode cL_law 628 = .ok (.iaload, 1) := by decide +kernel
theorem dL_law_629 : decode cL_law 629 = .ok (.invokevirtual 73, 3) := by decide +kernel
set_option maxRecDepth 50000 in
theorem lRL_73 : Cond.methodLink RL 73 yX12_run ∈ qw_good := qw_g 1660 rfl rfl
theorem dL_law_632 : decode cL_law 632 = .ok (.if_icmp .eq 574, 3) := by decide +kernel
theorem dL_law_637 : decode cL_law 637 = .ok (.aload_n 1, 1) := by decide +kernel
theorem dL_law_638 : decode cL_law 638 = .ok (.aload_n 0, 1) := by decide +kernel
theorem dL_law_639 : decode cL_law 639 = .ok (.iload 4, 2) := by decide +kernel
theorem dL_law_641 : decode cL_law 641 = .ok (.iconst 1, 1) := by decide +kernel
theorem dL_law_642 : decode cL_law 642 = .ok (.iadd, 1) := by decide +kernel
theorem dL_law_643 : decode cL_law 643 = .ok (.iaload, 1) := by decide +kernel
theorem dL_law_644 : decode cL_law 644 = .ok (.invokevirtual 74, 3) := by decide +kernel
set_option maxRecDepth 50000 in
theorem lRL_74 : Cond.methodLink RL 74 yX11_ran ∈ qw_good := qw_g 800 rfl rfl
theorem dL_law_647 : decode cL_law 647 = .ok (.aload_n 2, 1) := by decide +kernel
theorem dL_law_648 : decode cL_law 648 = .ok (.aload_n 0, 1) := by decide +kernel
theorem dL_law_649 : decode cL_law 649 = .ok (.iload 4, 2) := by decide +kernel
theorem dL_law_651 : decode cL_law 651 = .ok (.iconst 1, 1) := by decide +kernel
theorem dL_law_652 : decode cL_law 652 = .ok (.iadd, 1) := by decide +kernel
theorem dL_law_653 : decode cL_law 653 = .ok (.iaload, 1) := by decide +kernel
theorem dL_law_654 : decode cL_law 654 = .ok (.invokevirtual 78, 3) := by decide +kernel
set_option maxRecDepth 50000 in
theorem lRL_78 : Cond.methodLink RL 78 yX12_ran ∈ qw_good := qw_g 1673 rfl rfl
theorem dL_law_657 : decode cL_law 657 = .ok (.if_icmp .eq 549, 3) := by decide +kernel
theorem dL_law_662 : decode cL_law 662 = .ok (.aload_n 1, 1) := by decide +kernel
theorem dL_law_663 : decode cL_law 663 = .ok (.aload_n 0, 1) := by decide +kernel
theorem dL_law_664 : decode cL_law 664 = .ok (.iload 4, 2) := by decide +kernel
theorem dL_law_666 : decode cL_law 666 = .ok (.iconst 1, 1) := by decide +kernel
theorem dL_law_667 : decode cL_law 667 = .ok (.iadd, 1) := by decide +kernel
theorem dL_law_668 : decode cL_law 668 = .ok (.iaload, 1) := by decide +kernel
theorem dL_law_669 : decode cL_law 669 = .ok (.invokevirtual 79, 3) := by decide +kernel
set_option maxRecDepth 50000 in
theorem lRL_79 : Cond.methodLink RL 79 yX11_stands ∈ qw_good := qw_g 804 rfl rfl
theorem dL_law_672 : decode cL_law 672 = .ok (.aload_n 2, 1) := by decide +kernel
theorem dL_law_673 : decode cL_law 673 = .ok (.aload_n 0, 1) := by decide +kernel
theorem dL_law_674 : decode cL_law 674 = .ok (.iload 4, 2) := by decide +kernel
theorem dL_law_676 : decode cL_law 676 = .ok (.iconst 1, 1) := by decide +kernel
theorem dL_law_677 : decode cL_law 677 = .ok (.iadd, 1) := by decide +kernel
theorem dL_law_678 : decode cL_law 678 = .ok (.iaload, 1) := by decide +kernel
theorem dL_law_679 : decode cL_law 679 = .ok (.invokevirtual 82, 3) := by decide +kernel
set_option maxRecDepth 50000 in
theorem lRL_82 : Cond.methodLink RL 82 yX12_stands ∈ qw_good := qw_g 1677 rfl rfl
theorem dL_law_682 : decode cL_law 682 = .ok (.if_icmp .eq 524, 3) := by decide +kernel
theorem dL_law_687 : decode cL_law 687 = .ok (.aload_n 1, 1) := by decide +kernel
theorem dL_law_688 : decode cL_law 688 = .ok (.aload_n 0, 1) := by decide +kernel
theorem dL_law_689 : decode cL_law 689 = .ok (.iload 4, 2) := by decide +kernel
theorem dL_law_691 : decode cL_law 691 = .ok (.iconst 1, 1) := by decide +kernel
theorem dL_law_692 : decode cL_law 692 = .ok (.iadd, 1) := by decide +kernel
theorem dL_law_693 : decode cL_law 693 = .ok (.iaload, 1) := by decide +kernel
theorem dL_law_694 : decode cL_law 694 = .ok (.invokevirtual 83, 3) := by decide +kernel
set_option maxRecDepth 50000 in
theorem lRL_83 : Cond.methodLink RL 83 yX11_stand ∈ qw_good := qw_g 808 rfl rfl
theorem dL_law_697 : decode cL_law 697 = .ok (.aload_n 2, 1) := by decide +kernel
theorem dL_law_698 : decode cL_law 698 = .ok (.aload_n 0, 1) := by decide +kernel
theorem dL_law_699 : decode cL_law 699 = .ok (.iload 4, 2) := by decide +kernel
theorem dL_law_701 : decode cL_law 701 = .ok (.iconst 1, 1) := by decide +kernel
theorem dL_law_702 : decode cL_law 702 = .ok (.iadd, 1) := by decide +kernel
theorem dL_law_703 : decode cL_law 703 = .ok (.iaload, 1) := by decide +kernel
theorem dL_law_704 : decode cL_law 704 = .ok (.invokevirtual 86, 3) := by decide +kernel
set_option maxRecDepth 50000 in
theorem lRL_86 : Cond.methodLink RL 86 yX12_stand ∈ qw_good := qw_g 1681 rfl rfl
theorem dL_law_707 : decode cL_law 707 = .ok (.if_icmp .eq 499, 3) := by decide +kernel
theorem dL_law_712 : decode cL_law 712 = .ok (.aload_n 1, 1) := by decide +kernel
theorem dL_law_713 : decode cL_law 713 = .ok (.invokevirtual 87, 3) := by decide +kernel
set_option maxRecDepth 50000 in
theorem lRL_87 : Cond.methodLink RL 87 yX11_claim ∈ qw_good := qw_g 812 rfl rfl
theorem dL_law_716 : decode cL_law 716 = .ok (.aload_n 2, 1) := by decide +kernel
theorem dL_law_717 : decode cL_law 717 = .ok (.invokevirtual 90, 3) := by decide +kernel
set_option maxRecDepth 50000 in
theorem lRL_90 : Cond.methodLink RL 90 yX12_claim ∈ qw_good := qw_g 1685 rfl rfl
theorem dL_law_720 : decode cL_law 720 = .ok (.if_icmp .eq 486, 3) := by decide +kernel
theorem dL_law_725 : decode cL_law 725 = .ok (.aload_n 1, 1) := by decide +kernel
theorem dL_law_726 : decode cL_law 726 = .ok (.invokevirtual 91, 3) := by decide +kernel
set_option maxRecDepth 50000 in
theorem lRL_91 : Cond.methodLink RL 91 yX11_holds ∈ qw_good := qw_g 870 rfl rfl
theorem dL_law_729 : decode cL_law 729 = .ok (.aload_n 2, 1) := by decide +kernel
theorem dL_law_730 : decode cL_law 730 = .ok (.invokevirtual 94, 3) := by decide +kernel
set_option maxRecDepth 50000 in
theorem lRL_94 : Cond.methodLink RL 94 yX12_holds ∈ qw_good := qw_g 1713 rfl rfl
theorem dL_law_733 : decode cL_law 733 = .ok (.if_icmp .eq 473, 3) := by decide +kernel
theorem dL_law_738 : decode cL_law 738 = .ok (.aload_n 1, 1) := by decide +kernel
theorem dL_law_739 : decode cL_law 739 = .ok (.invokevirtual 95, 3) := by decide +kernel
set_option maxRecDepth 50000 in
theorem lRL_95 : Cond.methodLink RL 95 yX11_where ∈ qw_good := qw_g 892 rfl rfl
theorem dL_law_742 : decode cL_law 742 = .ok (.aload_n 2, 1) := by decide +kernel
theorem dL_law_743 : decode cL_law 743 = .ok (.invokevirtual 98, 3) := by decide +kernel
set_option maxRecDepth 50000 in
theorem lRL_98 : Cond.methodLink RL 98 yX12_where ∈ qw_good := qw_g 1729 rfl rfl
theorem dL_law_746 : decode cL_law 746 = .ok (.if_icmp .eq 460, 3) := by decide +kernel
theorem dL_law_751 : decode cL_law 751 = .ok (.aload_n 1, 1) := by decide +kernel
theorem dL_law_752 : decode cL_law 752 = .ok (.aload_n 0, 1) := by decide +kernel
theorem dL_law_753 : decode cL_law 753 = .ok (.iload 4, 2) := by decide +kernel
theorem dL_law_755 : decode cL_law 755 = .ok (.iconst 1, 1) := by decide +kernel
theorem dL_law_756 : decode cL_law 756 = .ok (.iadd, 1) := by decide +kernel
theorem dL_law_757 : decode cL_law 757 = .ok (.iaload, 1) := by decide +kernel
theorem dL_law_758 : decode cL_law 758 = .ok (.aload_n 0, 1) := by decide +kernel
theorem dL_law_759 : decode cL_law 759 = .ok (.iload 4, 2) := by decide +kernel
theorem dL_law_761 : decode cL_law 761 = .ok (.iconst 2, 1) := by decide +kernel
theorem dL_law_762 : decode cL_law 762 = .ok (.iadd, 1) := by decide +kernel
theorem dL_law_763 : decode cL_law 763 = .ok (.iaload, 1) := by decide +kernel
theorem dL_law_764 : decode cL_law 764 = .ok (.aload_n 3, 1) := by decide +kernel
theorem dL_law_765 : decode cL_law 765 = .ok (.invokestatic 99, 3) := by decide +kernel
set_option maxRecDepth 50000 in
theorem lRL_99 : Cond.methodLink RL 99 yL_value ∈ qw_good := qw_g 1239 rfl rfl
theorem dL_law_768 : decode cL_law 768 = .ok (.istore 5, 2) := by decide +kernel
theorem dL_law_770 : decode cL_law 770 = .ok (.aload_n 2, 1) := by decide +kernel
theorem dL_law_771 : decode cL_law 771 = .ok (.aload_n 0, 1) := by decide +kernel
theorem dL_law_772 : decode cL_law 772 = .ok (.iload 4, 2) := by decide +kernel
theorem dL_law_774 : decode cL_law 774 = .ok (.iconst 1, 1) := by decide +kernel
theorem dL_law_775 : decode cL_law 775 = .ok (.iadd, 1) := by decide +kernel
theorem dL_law_776 : decode cL_law 776 = .ok (.iaload, 1) := by decide +kernel
theorem dL_law_777 : decode cL_law 777 = .ok (.aload_n 0, 1) := by decide +kernel
theorem dL_law_778 : decode cL_law 778 = .ok (.iload 4, 2) := by decide +kernel
theorem dL_law_780 : decode cL_law 780 = .ok (.iconst 2, 1) := by decide +kernel
theorem dL_law_781 : decode cL_law 781 = .ok (.iadd, 1) := by decide +kernel
theorem dL_law_782 : decode cL_law 782 = .ok (.iaload, 1) := by decide +kernel
theorem dL_law_783 : decode cL_law 783 = .ok (.invokevirtual 101, 3) := by decide +kernel
set_option maxRecDepth 50000 in
theorem lRL_101 : Cond.methodLink RL 101 yX12_value ∈ qw_good := qw_g 1733 rfl rfl
theorem dL_law_786 : decode cL_law 786 = .ok (.istore 6, 2) := by decide +kernel
theorem dL_law_788 : decode cL_law 788 = .ok (.aload_n 2, 1) := by decide +kernel
theorem dL_law_789 : decode cL_law 789 = .ok (.invokevirtual 57, 3) := by decide +kernel
theorem dL_law_792 : decode cL_law 792 = .ok (.iload 5, 2) := by decide +kernel
theorem dL_law_794 : decode cL_law 794 = .ok (.if_icmp .eq 5, 3) := by decide +kernel
theorem dL_law_799 : decode cL_law 799 = .ok (.iload 5, 2) := by decide +kernel
theorem dL_law_801 : decode cL_law 801 = .ok (.ifCond .ne 15, 3) := by decide +kernel
theorem dL_law_804 : decode cL_law 804 = .ok (.aload_n 3, 1) := by decide +kernel
theorem dL_law_805 : decode cL_law 805 = .ok (.iconst 0, 1) := by decide +kernel
theorem dL_law_806 : decode cL_law 806 = .ok (.laload, 1) := by decide +kernel
theorem dL_law_807 : decode cL_law 807 = .ok (.iload 6, 2) := by decide +kernel
theorem dL_law_809 : decode cL_law 809 = .ok (.i2l, 1) := by decide +kernel
theorem dL_law_810 : decode cL_law 810 = .ok (.lcmp, 1) := by decide +kernel
theorem dL_law_811 : decode cL_law 811 = .ok (.ifCond .eq 5, 3) := by decide +kernel
theorem dL_law_816 : decode cL_law 816 = .ok (.goto 390, 3) := by decide +kernel
set_option maxHeartbeats 4000000 in
set_option maxRecDepth 100000 in
theorem lc_8 {G : GT} {L : Nat} {xs : Nat → Int32} {i : Nat} (hi : i + 6 ≤ L) (hL : L ≤ 3072) {h : PH} (inv : Inv h) (rm : LwR h) (kk : ∀ h2, Inv h2 → Rm h h2 → LwE G L xs 1206 i h2) : LwE G L xs 588 i h := by
  refine x_aload_n (pc := 588) dL_law_588 rfl ?_
  refine x_aload_n (pc := 589) dL_law_589 rfl ?_
  refine x_iload (pc := 590) dL_law_590 rfl ?_
  refine x_iconst (v := 1) (pc := 592) dL_law_592 (by decide) ?_
  refine x_iadd (pc := 593) dL_law_593 ?_
  refine x_sld (pc := 594) dL_law_594 (sc_in 1 rfl (by omega) hL) ?_
  refine x_aload_n (pc := 595) dL_law_595 rfl ?_
  refine x_iload (pc := 596) dL_law_596 rfl ?_
  refine x_iconst (v := 2) (pc := 598) dL_law_598 (by decide) ?_
  refine x_iadd (pc := 599) dL_law_599 ?_
  refine x_sld (pc := 600) dL_law_600 (sc_in 2 rfl (by omega) hL) ?_
  refine x_aload_n (pc := 601) dL_law_601 rfl ?_
  refine x_iload (pc := 602) dL_law_602 rfl ?_
  refine x_iconst (v := 3) (pc := 604) dL_law_604 (by decide) ?_
  refine x_iadd (pc := 605) dL_law_605 ?_
  refine x_sld (pc := 606) dL_law_606 (sc_in 3 rfl (by omega) hL) ?_
  refine x_invV (As := [.int (xs (nI i + 1).toNatClampNeg), .int (xs (nI i + 2).toNatClampNeg), .int (xs (nI i + 3).toNatClampNeg)]) (st := []) (pc := 607) dL_law_607 lRL_70 fX11_run vX11_run inv.k0 rfl (Nat.le_of_ble_eq_true rfl) ⟨by decide, by decide⟩ (lw_C ⟨by have := rm.1; omega, by have := rm.2; omega⟩ (by decide) (by decide)) (sn_X11_run G 0 0 (xs (nI i + 1).toNatClampNeg) (xs (nI i + 2).toNatClampNeg) (xs (nI i + 3).toNatClampNeg) h _ inv.k0 (op_run inv (xs (nI i + 1).toNatClampNeg) (xs (nI i + 2).toNatClampNeg) (xs (nI i + 3).toNatClampNeg))) (k_i (fun r1 h1 hwp cx1 => ?_))
  have rm1 : qn h1 ≤ 10000 ∧ qz h1 ≤ 1000000 := ⟨by have := rm.1; have := cx1.2.1; omega, by have := rm.2; have := cx1.2.2; omega⟩
  have ok70 := inv.k70.ex cx1.1
  refine x_aload_n (pc := 610) dL_law_610 rfl ?_
  refine x_aload_n (pc := 611) dL_law_611 rfl ?_
  refine x_iload (pc := 612) dL_law_612 rfl ?_
  refine x_iconst (v := 1) (pc := 614) dL_law_614 (by decide) ?_
  refine x_iadd (pc := 615) dL_law_615 ?_
  refine x_sld (pc := 616) dL_law_616 (sc_in 1 rfl (by omega) hL) ?_
  refine x_aload_n (pc := 617) dL_law_617 rfl ?_
  refine x_iload (pc := 618) dL_law_618 rfl ?_
  refine x_iconst (v := 2) (pc := 620) dL_law_620 (by decide) ?_
  refine x_iadd (pc := 621) dL_law_621 ?_
  refine x_sld (pc := 622) dL_law_622 (sc_in 2 rfl (by omega) hL) ?_
  refine x_aload_n (pc := 623) dL_law_623 rfl ?_
  refine x_iload (pc := 624) dL_law_624 rfl ?_
  refine x_iconst (v := 3) (pc := 626) dL_law_626 (by decide) ?_
  refine x_iadd (pc := 627) dL_law_627 ?_
  refine x_sld (pc := 628) dL_law_628 (sc_in 3 rfl (by omega) hL) ?_
  refine x_invV (As := [.int (xs (nI i + 1).toNatClampNeg), .int (xs (nI i + 2).toNatClampNeg), .int (xs (nI i + 3).toNatClampNeg)]) (st := [.int r1]) (pc := 629) dL_law_629 lRL_73 fX12_run vX12_run ok70 rfl (Nat.le_of_ble_eq_true rfl) ⟨by decide, by decide⟩ (lw_C rm1 (by decide) (by decide)) (sn_X12_run G 0 70 (xs (nI i + 1).toNatClampNeg) (xs (nI i + 2).toNatClampNeg) (xs (nI i + 3).toNatClampNeg) h1 _ ok70 hwp) (k_i (fun r2 h2 both cx2 => ?_))
  exact x_icmp_eq (tgt := 1206) (pc := 632) dL_law_632 (by decide) (fun _ => kk h2 both.2.1 both.2.2) (fun c => absurd both.1 c)

set_option maxHeartbeats 4000000 in
set_option maxRecDepth 100000 in
theorem lc_9 {G : GT} {L : Nat} {xs : Nat → Int32} {i : Nat} (hi : i + 6 ≤ L) (hL : L ≤ 3072) {h : PH} (inv : Inv h) (rm : LwR h) (kk : ∀ h2, Inv h2 → Rm h h2 → LwE G L xs 1206 i h2) : LwE G L xs 637 i h := by
  refine x_aload_n (pc := 637) dL_law_637 rfl ?_
  refine x_aload_n (pc := 638) dL_law_638 rfl ?_
  refine x_iload (pc := 639) dL_law_639 rfl ?_
  refine x_iconst (v := 1) (pc := 641) dL_law_641 (by decide) ?_
  refine x_iadd (pc := 642) dL_law_642 ?_
  refine x_sld (pc := 643) dL_law_643 (sc_in 1 rfl (by omega) hL) ?_
  refine x_invV (As := [.int (xs (nI i + 1).toNatClampNeg)]) (st := []) (pc := 644) dL_law_644 lRL_74 fX11_ran vX11_ran inv.k0 rfl (Nat.le_of_ble_eq_true rfl) ⟨by decide, by decide⟩ (lw_C ⟨by have := rm.1; omega, by have := rm.2; omega⟩ (by decide) (by decide)) (sn_X11_ran G 0 0 (xs (nI i + 1).toNatClampNeg) h _ inv.k0 (op_ran inv (xs (nI i + 1).toNatClampNeg))) (k_i (fun r1 h1 hwp cx1 => ?_))
  have rm1 : qn h1 ≤ 10000 ∧ qz h1 ≤ 1000000 := ⟨by have := rm.1; have := cx1.2.1; omega, by have := rm.2; have := cx1.2.2; omega⟩
  have ok70 := inv.k70.ex cx1.1
  refine x_aload_n (pc := 647) dL_law_647 rfl ?_
  refine x_aload_n (pc := 648) dL_law_648 rfl ?_
  refine x_iload (pc := 649) dL_law_649 rfl ?_
  refine x_iconst (v := 1) (pc := 651) dL_law_651 (by decide) ?_
  refine x_iadd (pc := 652) dL_law_652 ?_
  refine x_sld (pc := 653) dL_law_653 (sc_in 1 rfl (by omega) hL) ?_
  refine x_invV (As := [.int (xs (nI i + 1).toNatClampNeg)]) (st := [.int r1]) (pc := 654) dL_law_654 lRL_78 fX12_ran vX12_ran ok70 rfl (Nat.le_of_ble_eq_true rfl) ⟨by decide, by decide⟩ (lw_C rm1 (by decide) (by decide)) (sn_X12_ran G 0 70 (xs (nI i + 1).toNatClampNeg) h1 _ ok70 hwp) (k_i (fun r2 h2 both cx2 => ?_))
  exact x_icmp_eq (tgt := 1206) (pc := 657) dL_law_657 (by decide) (fun _ => kk h2 both.2.1 both.2.2) (fun c => absurd both.1 c)

set_option maxHeartbeats 4000000 in
set_option maxRecDepth 100000 in
theorem lc_10 {G : GT} {L : Nat} {xs : Nat → Int32} {i : Nat} (hi : i + 6 ≤ L) (hL : L ≤ 3072) {h : PH} (inv : Inv h) (rm : LwR h) (kk : ∀ h2, Inv h2 → Rm h h2 → LwE G L xs 1206 i h2) : LwE G L xs 662 i h := by
  refine x_aload_n (pc := 662) dL_law_662 rfl ?_
  refine x_aload_n (pc := 663) dL_law_663 rfl ?_
  refine x_iload (pc := 664) dL_law_664 rfl ?_
  refine x_iconst (v := 1) (pc := 666) dL_law_666 (by decide) ?_
  refine x_iadd (pc := 667) dL_law_667 ?_
  refine x_sld (pc := 668) dL_law_668 (sc_in 1 rfl (by omega) hL) ?_
  refine x_invV (As := [.int (xs (nI i + 1).toNatClampNeg)]) (st := []) (pc := 669) dL_law_669 lRL_79 fX11_stands vX11_stands inv.k0 rfl (Nat.le_of_ble_eq_true rfl) ⟨by decide, by decide⟩ (lw_C ⟨by have := rm.1; omega, by have := rm.2; omega⟩ (by decide) (by decide)) (sn_X11_stands G 0 0 (xs (nI i + 1).toNatClampNeg) h _ inv.k0 (op_stands inv (xs (nI i + 1).toNatClampNeg))) (k_i (fun r1 h1 hwp cx1 => ?_))
  have rm1 : qn h1 ≤ 10000 ∧ qz h1 ≤ 1000000 := ⟨by have := rm.1; have := cx1.2.1; omega, by have := rm.2; have := cx1.2.2; omega⟩
  have ok70 := inv.k70.ex cx1.1
  refine x_aload_n (pc := 672) dL_law_672 rfl ?_
  refine x_aload_n (pc := 673) dL_law_673 rfl ?_
  refine x_iload (pc := 674) dL_law_674 rfl ?_
  refine x_iconst (v := 1) (pc := 676) dL_law_676 (by decide) ?_
  refine x_iadd (pc := 677) dL_law_677 ?_
  refine x_sld (pc := 678) dL_law_678 (sc_in 1 rfl (by omega) hL) ?_
  refine x_invV (As := [.int (xs (nI i + 1).toNatClampNeg)]) (st := [.int r1]) (pc := 679) dL_law_679 lRL_82 fX12_stands vX12_stands ok70 rfl (Nat.le_of_ble_eq_true rfl) ⟨by decide, by decide⟩ (lw_C rm1 (by decide) (by decide)) (sn_X12_stands G 0 70 (xs (nI i + 1).toNatClampNeg) h1 _ ok70 hwp) (k_i (fun r2 h2 both cx2 => ?_))
  exact x_icmp_eq (tgt := 1206) (pc := 682) dL_law_682 (by decide) (fun _ => kk h2 both.2.1 both.2.2) (fun c => absurd both.1 c)

set_option maxHeartbeats 4000000 in
set_option maxRecDepth 100000 in
theorem lc_11 {G : GT} {L : Nat} {xs : Nat → Int32} {i : Nat} (hi : i + 6 ≤ L) (hL : L ≤ 3072) {h : PH} (inv : Inv h) (rm : LwR h) (kk : ∀ h2, Inv h2 → Rm h h2 → LwE G L xs 1206 i h2) : LwE G L xs 687 i h := by
  refine x_aload_n (pc := 687) dL_law_687 rfl ?_
  refine x_aload_n (pc := 688) dL_law_688 rfl ?_
  refine x_iload (pc := 689) dL_law_689 rfl ?_
  refine x_iconst (v := 1) (pc := 691) dL_law_691 (by decide) ?_
  refine x_iadd (pc := 692) dL_law_692 ?_
  refine x_sld (pc := 693) dL_law_693 (sc_in 1 rfl (by omega) hL) ?_
  refine x_invV (As := [.int (xs (nI i + 1).toNatClampNeg)]) (st := []) (pc := 694) dL_law_694 lRL_83 fX11_stand vX11_stand inv.k0 rfl (Nat.le_of_ble_eq_true rfl) ⟨by decide, by decide⟩ (lw_C ⟨by have := rm.1; omega, by have := rm.2; omega⟩ (by decide) (by decide)) (sn_X11_stand G 0 0 (xs (nI i + 1).toNatClampNeg) h _ inv.k0 (op_stand inv (xs (nI i + 1).toNatClampNeg))) (k_i (fun r1 h1 hwp cx1 => ?_))
  have rm1 : qn h1 ≤ 10000 ∧ qz h1 ≤ 1000000 := ⟨by have := rm.1; have := cx1.2.1; omega, by have := rm.2; have := cx1.2.2; omega⟩
  have ok70 := inv.k70.ex cx1.1
  refine x_aload_n (pc := 697) dL_law_697 rfl ?_
  refine x_aload_n (pc := 698) dL_law_698 rfl ?_
  refine x_iload (pc := 699) dL_law_699 rfl ?_
  refine x_iconst (v := 1) (pc := 701) dL_law_701 (by decide) ?_
  refine x_iadd (pc := 702) dL_law_702 ?_
  refine x_sld (pc := 703) dL_law_703 (sc_in 1 rfl (by omega) hL) ?_
  refine x_invV (As := [.int (xs (nI i + 1).toNatClampNeg)]) (st := [.int r1]) (pc := 704) dL_law_704 lRL_86 fX12_stand vX12_stand ok70 rfl (Nat.le_of_ble_eq_true rfl) ⟨by decide, by decide⟩ (lw_C rm1 (by decide) (by decide)) (sn_X12_stand G 0 70 (xs (nI i + 1).toNatClampNeg) h1 _ ok70 hwp) (k_i (fun r2 h2 both cx2 => ?_))
  exact x_icmp_eq (tgt := 1206) (pc := 707) dL_law_707 (by decide) (fun _ => kk h2 both.2.1 both.2.2) (fun c => absurd both.1 c)

set_option maxHeartbeats 4000000 in
set_option maxRecDepth 100000 in
theorem lc_12 {G : GT} {L : Nat} {xs : Nat → Int32} {i : Nat} (hi : i + 6 ≤ L) (hL : L ≤ 3072) {h : PH} (inv : Inv h) (rm : LwR h) (kk : ∀ h2, Inv h2 → Rm h h2 → LwE G L xs 1206 i h2) : LwE G L xs 712 i h := by
  refine x_aload_n (pc := 712) dL_law_712 rfl ?_
  refine x_invV (As := []) (st := []) (pc := 713) dL_law_713 lRL_87 fX11_claim vX11_claim inv.k0 rfl (Nat.le_of_ble_eq_true rfl) ⟨by decide, by decide⟩ (lw_C ⟨by have := rm.1; omega, by have := rm.2; omega⟩ (by decide) (by decide)) (sn_X11_claim G 0 0  h _ inv.k0 (op_claim inv )) (k_i (fun r1 h1 hwp cx1 => ?_))
  have rm1 : qn h1 ≤ 10000 ∧ qz h1 ≤ 1000000 := ⟨by have := rm.1; have := cx1.2.1; omega, by have := rm.2; have := cx1.2.2; omega⟩
  have ok70 := inv.k70.ex cx1.1
  refine x_aload_n (pc := 716) dL_law_716 rfl ?_
  refine x_invV (As := []) (st := [.int r1]) (pc := 717) dL_law_717 lRL_90 fX12_claim vX12_claim ok70 rfl (Nat.le_of_ble_eq_true rfl) ⟨by decide, by decide⟩ (lw_C rm1 (by decide) (by decide)) (sn_X12_claim G 0 70  h1 _ ok70 hwp) (k_i (fun r2 h2 both cx2 => ?_))
  exact x_icmp_eq (tgt := 1206) (pc := 720) dL_law_720 (by decide) (fun _ => kk h2 both.2.1 both.2.2) (fun c => absurd both.1 c)

set_option maxHeartbeats 4000000 in
set_option maxRecDepth 100000 in
theorem lc_13 {G : GT} {L : Nat} {xs : Nat → Int32} {i : Nat} (hi : i + 6 ≤ L) (hL : L ≤ 3072) {h : PH} (inv : Inv h) (rm : LwR h) (kk : ∀ h2, Inv h2 → Rm h h2 → LwE G L xs 1206 i h2) : LwE G L xs 725 i h := by
  refine x_aload_n (pc := 725) dL_law_725 rfl ?_
  refine x_invV (As := []) (st := []) (pc := 726) dL_law_726 lRL_91 fX11_holds vX11_holds inv.k0 rfl (Nat.le_of_ble_eq_true rfl) ⟨by decide, by decide⟩ (lw_C ⟨by have := rm.1; omega, by have := rm.2; omega⟩ (by decide) (by decide)) (sn_X11_holds G 0 0  h _ inv.k0 (op_holds inv )) (k_i (fun r1 h1 hwp cx1 => ?_))
  have rm1 : qn h1 ≤ 10000 ∧ qz h1 ≤ 1000000 := ⟨by have := rm.1; have := cx1.2.1; omega, by have := rm.2; have := cx1.2.2; omega⟩
  have ok70 := inv.k70.ex cx1.1
  refine x_aload_n (pc := 729) dL_law_729 rfl ?_
  refine x_invV (As := []) (st := [.int r1]) (pc := 730) dL_law_730 lRL_94 fX12_holds vX12_holds ok70 rfl (Nat.le_of_ble_eq_true rfl) ⟨by decide, by decide⟩ (lw_C rm1 (by decide) (by decide)) (sn_X12_holds G 0 70  h1 _ ok70 hwp) (k_i (fun r2 h2 both cx2 => ?_))
  exact x_icmp_eq (tgt := 1206) (pc := 733) dL_law_733 (by decide) (fun _ => kk h2 both.2.1 both.2.2) (fun c => absurd both.1 c)

set_option maxHeartbeats 4000000 in
set_option maxRecDepth 100000 in
theorem lc_14 {G : GT} {L : Nat} {xs : Nat → Int32} {i : Nat} (hi : i + 6 ≤ L) (hL : L ≤ 3072) {h : PH} (inv : Inv h) (rm : LwR h) (kk : ∀ h2, Inv h2 → Rm h h2 → LwE G L xs 1206 i h2) : LwE G L xs 738 i h := by
  refine x_aload_n (pc := 738) dL_law_738 rfl ?_
  refine x_invV (As := []) (st := []) (pc := 739) dL_law_739 lRL_95 fX11_where vX11_where inv.k0 rfl (Nat.le_of_ble_eq_true rfl) ⟨by decide, by decide⟩ (lw_C ⟨by have := rm.1; omega, by have := rm.2; omega⟩ (by decide) (by decide)) (sn_X11_where G 0 0  h _ inv.k0 (op_where inv )) (k_i (fun r1 h1 hwp cx1 => ?_))
  have rm1 : qn h1 ≤ 10000 ∧ qz h1 ≤ 1000000 := ⟨by have := rm.1; have := cx1.2.1; omega, by have := rm.2; have := cx1.2.2; omega⟩
  have ok70 := inv.k70.ex cx1.1
  refine x_aload_n (pc := 742) dL_law_742 rfl ?_
  refine x_invV (As := []) (st := [.int r1]) (pc := 743) dL_law_743 lRL_98 fX12_where vX12_where ok70 rfl (Nat.le_of_ble_eq_true rfl) ⟨by decide, by decide⟩ (lw_C rm1 (by decide) (by decide)) (sn_X12_where G 0 70  h1 _ ok70 hwp) (k_i (fun r2 h2 both cx2 => ?_))
  exact x_icmp_eq (tgt := 1206) (pc := 746) dL_law_746 (by decide) (fun _ => kk h2 both.2.1 both.2.2) (fun c => absurd both.1 c)

set_option maxHeartbeats 4000000 in
set_option maxRecDepth 100000 in
theorem lc_15 {G : GT} {L : Nat} {xs : Nat → Int32} {i : Nat} (hi : i + 6 ≤ L) (hL : L ≤ 3072) {h : PH} (inv : Inv h) (rm : LwR h) (kk : ∀ h2, Inv h2 → Rm h h2 → LwE G L xs 1206 i h2) : LwE G L xs 751 i h := by
  refine x_aload_n (pc := 751) dL_law_751 rfl ?_
  refine x_aload_n (pc := 752) dL_law_752 rfl ?_
  refine x_iload (pc := 753) dL_law_753 rfl ?_
  refine x_iconst (v := 1) (pc := 755) dL_law_755 (by decide) ?_
  refine x_iadd (pc := 756) dL_law_756 ?_
  refine x_sld (pc := 757) dL_law_757 (sc_in 1 rfl (by omega) hL) ?_
  refine x_aload_n (pc := 758) dL_law_758 rfl ?_
  refine x_iload (pc := 759) dL_law_759 rfl ?_
  refine x_iconst (v := 2) (pc := 761) dL_law_761 (by decide) ?_
  refine x_iadd (pc := 762) dL_law_762 ?_
  refine x_sld (pc := 763) dL_law_763 (sc_in 2 rfl (by omega) hL) ?_
  refine x_aload_n (pc := 764) dL_law_764 rfl ?_
  rcases op_value inv (by have := rm.1; omega) (xs (nI i + 1).toNatClampNeg) (xs (nI i + 2).toNatClampNeg) with hw | hw
  · refine x_invSH (As := [.ref 0, .int (xs (nI i + 1).toNatClampNeg), .int (xs (nI i + 2).toNatClampNeg), .ref 92]) (st := []) (pc := 765) dL_law_765 lRL_99 cwL_value itRL dsL_value sL_value rfl (Nat.le_of_ble_eq_true rfl) ⟨by decide, by decide⟩ (lw_C ⟨by have := rm.1; omega, by have := rm.2; omega⟩ (by decide) (by decide)) (sn_L_value G 0 0 (xs (nI i + 1).toNatClampNeg) (xs (nI i + 2).toNatClampNeg) 92 h _ inv.k0 inv.k92 hw) ZL.th (k_i (fun r1 h1 hwp cx1 => ?_))
    have rm1 : qn h1 ≤ 10000 ∧ qz h1 ≤ 1000000 := ⟨by have := rm.1; have := cx1.2.1; omega, by have := rm.2; have := cx1.2.2; omega⟩
    have ok70 := inv.k70.ex cx1.1
    obtain ⟨r0, hwp⟩ := hwp
    refine x_istore (lv2 := [(5, .int r1), (4, .int (nI i)), (3, .ref 92), (2, .ref 70), (1, .ref 0), (0, .ref (wd 35))]) (pc := 768) dL_law_768 (by decide) rfl ?_
    refine x_aload_n (pc := 770) dL_law_770 rfl ?_
    refine x_aload_n (pc := 771) dL_law_771 rfl ?_
    refine x_iload (pc := 772) dL_law_772 rfl ?_
    refine x_iconst (v := 1) (pc := 774) dL_law_774 (by decide) ?_
    refine x_iadd (pc := 775) dL_law_775 ?_
    refine x_sld (pc := 776) dL_law_776 (sc_in 1 rfl (by omega) hL) ?_
    refine x_aload_n (pc := 777) dL_law_777 rfl ?_
    refine x_iload (pc := 778) dL_law_778 rfl ?_
    refine x_iconst (v := 2) (pc := 780) dL_law_780 (by decide) ?_
    refine x_iadd (pc := 781) dL_law_781 ?_
    refine x_sld (pc := 782) dL_law_782 (sc_in 2 rfl (by omega) hL) ?_
    refine x_invV (As := [.int (xs (nI i + 1).toNatClampNeg), .int (xs (nI i + 2).toNatClampNeg)]) (st := []) (pc := 783) dL_law_783 lRL_101 fX12_value vX12_value ok70 rfl (Nat.le_of_ble_eq_true rfl) ⟨by decide, by decide⟩ (lw_C rm1 (by decide) (by decide)) (sn_X12_value G 0 70 (xs (nI i + 1).toNatClampNeg) (xs (nI i + 2).toNatClampNeg) h1 _ ok70 hwp) (k_i (fun r2 h2 both cx2 => ?_))
    refine x_istore (lv2 := [(6, .int r2), (5, .int r1), (4, .int (nI i)), (3, .ref 92), (2, .ref 70), (1, .ref 0), (0, .ref (wd 35))]) (pc := 786) dL_law_786 (by decide) rfl ?_
    refine x_aload_n (pc := 788) dL_law_788 rfl ?_
    have ok70 := ok70.ex cx2.1
    have rm2 : qn h2 ≤ 10000 ∧ qz h2 ≤ 1000000 := ⟨by have := rm.1; have := cx1.2.1; have := cx2.2.1; omega, by have := rm.2; have := cx1.2.2; have := cx2.2.2; omega⟩
    refine x_invV (As := []) (st := []) (pc := 789) dL_law_789 lRL_57 fX12_thrown vX12_thrown ok70 rfl (Nat.le_of_ble_eq_true rfl) ⟨by decide, by decide⟩ (lw_C rm2 (by decide) (by decide)) (sn_X12_thrown G 0 70 h2 _ ok70 both) (k_i (fun r3 h3 fin cx3 => ?_))
    obtain ⟨f1, f2, inv3, rm3⟩ := fin
    refine x_iload (pc := 792) dL_law_792 rfl ?_
    refine x_icmp_eq (tgt := 799) (pc := 794) dL_law_794 (by decide) (fun _ => ?_) (fun c => absurd f1 c)
    refine x_iload (pc := 799) dL_law_799 rfl ?_
    refine x_if_ne (tgt := 816) (pc := 801) dL_law_801 (by decide) (fun c => absurd r0 c) (fun _ => ?_)
    refine x_aload_n (pc := 804) dL_law_804 rfl ?_
    refine x_iconst (v := 0) (pc := 805) dL_law_805 (by decide) ?_
    refine x_laload (pc := 806) dL_law_806 inv3.k92 (o_in inv3) ?_
    refine x_iload (pc := 807) dL_law_807 rfl ?_
    refine x_i2l (pc := 809) dL_law_809 ?_
    refine x_lcmp (pc := 810) dL_law_810 ?_
    refine x_if_eq (tgt := 816) (pc := 811) dL_law_811 (by decide) (fun _ => ?_) (fun c => absurd ((lg_cmp_eq _ _).mpr (f2 r0)) c)
    refine x_goto (tgt := 1206) (pc := 816) dL_law_816 (by decide) ?_
    exact x_sub [2, 3, 4, 5, 6] rfl (kk h3 inv3 rm3)
  · refine x_invSH (As := [.ref 0, .int (xs (nI i + 1).toNatClampNeg), .int (xs (nI i + 2).toNatClampNeg), .ref 92]) (st := []) (pc := 765) dL_law_765 lRL_99 cwL_value itRL dsL_value sL_value rfl (Nat.le_of_ble_eq_true rfl) ⟨by decide, by decide⟩ (lw_C ⟨by have := rm.1; omega, by have := rm.2; omega⟩ (by decide) (by decide)) (sx_L_value G 0 0 (xs (nI i + 1).toNatClampNeg) (xs (nI i + 2).toNatClampNeg) 92 h _ inv.k0 inv.k92 hw) ZL.th (k_i (fun r1 h1 hwp cx1 => ?_))
    have rm1 : qn h1 ≤ 10000 ∧ qz h1 ≤ 1000000 := ⟨by have := rm.1; have := cx1.2.1; omega, by have := rm.2; have := cx1.2.2; omega⟩
    have ok70 := inv.k70.ex cx1.1
    obtain ⟨r0, hwp⟩ := hwp
    refine x_istore (lv2 := [(5, .int r1), (4, .int (nI i)), (3, .ref 92), (2, .ref 70), (1, .ref 0), (0, .ref (wd 35))]) (pc := 768) dL_law_768 (by decide) rfl ?_
    refine x_aload_n (pc := 770) dL_law_770 rfl ?_
    refine x_aload_n (pc := 771) dL_law_771 rfl ?_
    refine x_iload (pc := 772) dL_law_772 rfl ?_
    refine x_iconst (v := 1) (pc := 774) dL_law_774 (by decide) ?_
    refine x_iadd (pc := 775) dL_law_775 ?_
    refine x_sld (pc := 776) dL_law_776 (sc_in 1 rfl (by omega) hL) ?_
    refine x_aload_n (pc := 777) dL_law_777 rfl ?_
    refine x_iload (pc := 778) dL_law_778 rfl ?_
    refine x_iconst (v := 2) (pc := 780) dL_law_780 (by decide) ?_
    refine x_iadd (pc := 781) dL_law_781 ?_
    refine x_sld (pc := 782) dL_law_782 (sc_in 2 rfl (by omega) hL) ?_
    refine x_invV (As := [.int (xs (nI i + 1).toNatClampNeg), .int (xs (nI i + 2).toNatClampNeg)]) (st := []) (pc := 783) dL_law_783 lRL_101 fX12_value vX12_value ok70 rfl (Nat.le_of_ble_eq_true rfl) ⟨by decide, by decide⟩ (lw_C rm1 (by decide) (by decide)) (sn_X12_value G 0 70 (xs (nI i + 1).toNatClampNeg) (xs (nI i + 2).toNatClampNeg) h1 _ ok70 hwp) (k_i (fun r2 h2 both cx2 => ?_))
    refine x_istore (lv2 := [(6, .int r2), (5, .int r1), (4, .int (nI i)), (3, .ref 92), (2, .ref 70), (1, .ref 0), (0, .ref (wd 35))]) (pc := 786) dL_law_786 (by decide) rfl ?_
    refine x_aload_n (pc := 788) dL_law_788 rfl ?_
    have ok70 := ok70.ex cx2.1
    have rm2 : qn h2 ≤ 10000 ∧ qz h2 ≤ 1000000 := ⟨by have := rm.1; have := cx1.2.1; have := cx2.2.1; omega, by have := rm.2; have := cx1.2.2; have := cx2.2.2; omega⟩
    refine x_invV (As := []) (st := []) (pc := 789) dL_law_789 lRL_57 fX12_thrown vX12_thrown ok70 rfl (Nat.le_of_ble_eq_true rfl) ⟨by decide, by decide⟩ (lw_C rm2 (by decide) (by decide)) (sn_X12_thrown G 0 70 h2 _ ok70 both) (k_i (fun r3 h3 fin cx3 => ?_))
    obtain ⟨f1, f2, inv3, rm3⟩ := fin
    refine x_iload (pc := 792) dL_law_792 rfl ?_
    refine x_icmp_eq (tgt := 799) (pc := 794) dL_law_794 (by decide) (fun _ => ?_) (fun c => absurd f1 c)
    refine x_iload (pc := 799) dL_law_799 rfl ?_
    refine x_if_ne (tgt := 816) (pc := 801) dL_law_801 (by decide) (fun _ => ?_) (fun c => absurd (r0.symm.trans c) (by decide))
    refine x_goto (tgt := 1206) (pc := 816) dL_law_816 (by decide) ?_
    exact x_sub [2, 3, 4, 5, 6] rfl (kk h3 inv3 rm3)
