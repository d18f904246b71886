/-! ===== the law, cases 16 to 23 ===== -/
theorem dL_law_819 : decode cL_law 819 = .ok (.aload_n 1, 1) := by decide +kernel
theorem dL_law_820 : decode cL_law 820 = .ok (.aload_n 0, 1) := by decide +kernel
theorem dL_law_821 : decode cL_law 821 = .ok (.iload 4, 2) := by decide +kernel
theorem dL_law_823 : decode cL_law 823 = .ok (.iconst 1, 1) := by decide +kernel
theorem dL_law_824 : decode cL_law 824 = .ok (.iadd, 1) := by decide +kernel
theorem dL_law_825 : decode cL_law 825 = .ok (.iaload, 1) := by decide +kernel
theorem dL_law_826 : decode cL_law 826 = .ok (.invokevirtual 102, 3) := by decide +kernel
set_option maxRecDepth 50000 in
theorem lRL_102 : Cond.methodLink RL 102 yX11_goes ∈ qw_good := qw_g 896 rfl rfl
theorem dL_law_829 : decode cL_law 829 = .ok (.aload_n 2, 1) := by decide +kernel
theorem dL_law_830 : decode cL_law 830 = .ok (.aload_n 0, 1) := by decide +kernel
theorem dL_law_831 : decode cL_law 831 = .ok (.iload 4, 2) := by decide +kernel
theorem dL_law_833 : decode cL_law 833 = .ok (.iconst 1, 1) := by decide +kernel
theorem dL_law_834 : decode cL_law 834 = .ok (.iadd, 1) := by decide +kernel
theorem dL_law_835 : decode cL_law 835 = .ok (.iaload, 1) := by decide +kernel
theorem dL_law_836 : decode cL_law 836 = .ok (.invokevirtual 105, 3) := by decide +kernel
set_option maxRecDepth 50000 in
theorem lRL_105 : Cond.methodLink RL 105 yX12_goes ∈ qw_good := qw_g 1737 rfl rfl
theorem dL_law_839 : decode cL_law 839 = .ok (.if_icmp .eq 367, 3) := by decide +kernel
theorem dL_law_844 : decode cL_law 844 = .ok (.aload_n 1, 1) := by decide +kernel
theorem dL_law_845 : decode cL_law 845 = .ok (.aload_n 0, 1) := by decide +kernel
theorem dL_law_846 : decode cL_law 846 = .ok (.iload 4, 2) := by decide +kernel
theorem dL_law_848 : decode cL_law 848 = .ok (.iconst 1, 1) := by decide +kernel
theorem dL_law_849 : decode cL_law 849 = .ok (.iadd, 1) := by decide +kernel
theorem dL_law_850 : decode cL_law 850 = .ok (.iaload, 1) := by decide +kernel
theorem dL_law_851 : decode cL_law 851 = .ok (.invokevirtual 106, 3) := by decide +kernel
set_option maxRecDepth 50000 in
theorem lRL_106 : Cond.methodLink RL 106 yX11_least ∈ qw_good := qw_g 916 rfl rfl
theorem dL_law_854 : decode cL_law 854 = .ok (.aload_n 2, 1) := by decide +kernel
theorem dL_law_855 : decode cL_law 855 = .ok (.aload_n 0, 1) := by decide +kernel
theorem dL_law_856 : decode cL_law 856 = .ok (.iload 4, 2) := by decide +kernel
theorem dL_law_858 : decode cL_law 858 = .ok (.iconst 1, 1) := by decide +kernel
theorem dL_law_859 : decode cL_law 859 = .ok (.iadd, 1) := by decide +kernel
theorem dL_law_860 : decode cL_law 860 = .ok (.iaload, 1) := by decide +kernel
theorem dL_law_861 : decode cL_law 861 = .ok (.invokevirtual 109, 3) := by decide +kernel
set_option maxRecDepth 50000 in
theorem lRL_109 : Cond.methodLink RL 109 yX12_least ∈ qw_good := qw_g 1741 rfl rfl
theorem dL_law_864 : decode cL_law 864 = .ok (.if_icmp .eq 342, 3) := by decide +kernel
theorem dL_law_869 : decode cL_law 869 = .ok (.aload_n 1, 1) := by decide +kernel
theorem dL_law_870 : decode cL_law 870 = .ok (.aload_n 0, 1) := by decide +kernel
theorem dL_law_871 : decode cL_law 871 = .ok (.iload 4, 2) := by decide +kernel
theorem dL_law_873 : decode cL_law 873 = .ok (.iconst 1, 1) := by decide +kernel
theorem dL_law_874 : decode cL_law 874 = .ok (.iadd, 1) := by decide +kernel
theorem dL_law_875 : decode cL_law 875 = .ok (.iaload, 1) := by decide +kernel
theorem dL_law_876 : decode cL_law 876 = .ok (.invokevirtual 110, 3) := by decide +kernel
set_option maxRecDepth 50000 in
theorem lRL_110 : Cond.methodLink RL 110 yX11_needs ∈ qw_good := qw_g 923 rfl rfl
theorem dL_law_879 : decode cL_law 879 = .ok (.aload_n 2, 1) := by decide +kernel
theorem dL_law_880 : decode cL_law 880 = .ok (.aload_n 0, 1) := by decide +kernel
theorem dL_law_881 : decode cL_law 881 = .ok (.iload 4, 2) := by decide +kernel
theorem dL_law_883 : decode cL_law 883 = .ok (.iconst 1, 1) := by decide +kernel
theorem dL_law_884 : decode cL_law 884 = .ok (.iadd, 1) := by decide +kernel
theorem dL_law_885 : decode cL_law 885 = .ok (.iaload, 1) := by decide +kernel
theorem dL_law_886 : decode cL_law 886 = .ok (.invokevirtual 113, 3) := by decide +kernel
set_option maxRecDepth 50000 in
theorem lRL_113 : Cond.methodLink RL 113 yX12_needs ∈ qw_good := qw_g 1749 rfl rfl
theorem dL_law_889 : decode cL_law 889 = .ok (.if_icmp .eq 317, 3) := by decide +kernel
theorem dL_law_894 : decode cL_law 894 = .ok (.aload_n 1, 1) := by decide +kernel
theorem dL_law_895 : decode cL_law 895 = .ok (.aload_n 0, 1) := by decide +kernel
theorem dL_law_896 : decode cL_law 896 = .ok (.iload 4, 2) := by decide +kernel
theorem dL_law_898 : decode cL_law 898 = .ok (.iconst 1, 1) := by decide +kernel
theorem dL_law_899 : decode cL_law 899 = .ok (.iadd, 1) := by decide +kernel
theorem dL_law_900 : decode cL_law 900 = .ok (.iaload, 1) := by decide +kernel
theorem dL_law_901 : decode cL_law 901 = .ok (.aload_n 0, 1) := by decide +kernel
theorem dL_law_902 : decode cL_law 902 = .ok (.iload 4, 2) := by decide +kernel
theorem dL_law_904 : decode cL_law 904 = .ok (.iconst 2, 1) := by decide +kernel
theorem dL_law_905 : decode cL_law 905 = .ok (.iadd, 1) := by decide +kernel
theorem dL_law_906 : decode cL_law 906 = .ok (.iaload, 1) := by decide +kernel
theorem dL_law_907 : decode cL_law 907 = .ok (.invokevirtual 114, 3) := by decide +kernel
set_option maxRecDepth 50000 in
theorem lRL_114 : Cond.methodLink RL 114 yX11_hidden ∈ qw_good := qw_g 932 rfl rfl
theorem dL_law_910 : decode cL_law 910 = .ok (.aload_n 2, 1) := by decide +kernel
theorem dL_law_911 : decode cL_law 911 = .ok (.aload_n 0, 1) := by decide +kernel
theorem dL_law_912 : decode cL_law 912 = .ok (.iload 4, 2) := by decide +kernel
theorem dL_law_914 : decode cL_law 914 = .ok (.iconst 1, 1) := by decide +kernel
theorem dL_law_915 : decode cL_law 915 = .ok (.iadd, 1) := by decide +kernel
theorem dL_law_916 : decode cL_law 916 = .ok (.iaload, 1) := by decide +kernel
theorem dL_law_917 : decode cL_law 917 = .ok (.aload_n 0, 1) := by decide +kernel
theorem dL_law_918 : decode cL_law 918 = .ok (.iload 4, 2) := by decide +kernel
theorem dL_law_920 : decode cL_law 920 = .ok (.iconst 2, 1) := by decide +kernel
theorem dL_law_921 : decode cL_law 921 = .ok (.iadd, 1) := by decide +kernel
theorem dL_law_922 : decode cL_law 922 = .ok (.iaload, 1) := by decide +kernel
theorem dL_law_923 : decode cL_law 923 = .ok (.invokevirtual 117, 3) := by decide +kernel
set_option maxRecDepth 50000 in
theorem lRL_117 : Cond.methodLink RL 117 yX12_hidden ∈ qw_good := qw_g 1753 rfl rfl
theorem dL_law_926 : decode cL_law 926 = .ok (.if_icmp .eq 280, 3) := by decide +kernel
theorem dL_law_931 : decode cL_law 931 = .ok (.aload_n 1, 1) := by decide +kernel
theorem dL_law_932 : decode cL_law 932 = .ok (.aload_n 0, 1) := by decide +kernel
theorem dL_law_933 : decode cL_law 933 = .ok (.iload 4, 2) := by decide +kernel
theorem dL_law_935 : decode cL_law 935 = .ok (.iconst 1, 1) := by decide +kernel
theorem dL_law_936 : decode cL_law 936 = .ok (.iadd, 1) := by decide +kernel
theorem dL_law_937 : decode cL_law 937 = .ok (.iaload, 1) := by decide +kernel
theorem dL_law_938 : decode cL_law 938 = .ok (.aload_n 0, 1) := by decide +kernel
theorem dL_law_939 : decode cL_law 939 = .ok (.iload 4, 2) := by decide +kernel
theorem dL_law_941 : decode cL_law 941 = .ok (.iconst 2, 1) := by decide +kernel
theorem dL_law_942 : decode cL_law 942 = .ok (.iadd, 1) := by decide +kernel
theorem dL_law_943 : decode cL_law 943 = .ok (.iaload, 1) := by decide +kernel
theorem dL_law_944 : decode cL_law 944 = .ok (.invokevirtual 118, 3) := by decide +kernel
set_option maxRecDepth 50000 in
theorem lRL_118 : Cond.methodLink RL 118 yX11_hiddenAt ∈ qw_good := qw_g 963 rfl rfl
theorem dL_law_947 : decode cL_law 947 = .ok (.aload_n 2, 1) := by decide +kernel
theorem dL_law_948 : decode cL_law 948 = .ok (.aload_n 0, 1) := by decide +kernel
theorem dL_law_949 : decode cL_law 949 = .ok (.iload 4, 2) := by decide +kernel
theorem dL_law_951 : decode cL_law 951 = .ok (.iconst 1, 1) := by decide +kernel
theorem dL_law_952 : decode cL_law 952 = .ok (.iadd, 1) := by decide +kernel
theorem dL_law_953 : decode cL_law 953 = .ok (.iaload, 1) := by decide +kernel
theorem dL_law_954 : decode cL_law 954 = .ok (.aload_n 0, 1) := by decide +kernel
theorem dL_law_955 : decode cL_law 955 = .ok (.iload 4, 2) := by decide +kernel
theorem dL_law_957 : decode cL_law 957 = .ok (.iconst 2, 1) := by decide +kernel
theorem dL_law_958 : decode cL_law 958 = .ok (.iadd, 1) := by decide +kernel
theorem dL_law_959 : decode cL_law 959 = .ok (.iaload, 1) := by decide +kernel
theorem dL_law_960 : decode cL_law 960 = .ok (.invokevirtual 121, 3) := by decide +kernel
set_option maxRecDepth 50000 in
theorem lRL_121 : Cond.methodLink RL 121 yX12_hiddenAt ∈ qw_good := qw_g 1761 rfl rfl
theorem dL_law_963 : decode cL_law 963 = .ok (.if_icmp .eq 243, 3) := by decide +kernel
theorem dL_law_968 : decode cL_law 968 = .ok (.aload_n 1, 1) := by decide +kernel
theorem dL_law_969 : decode cL_law 969 = .ok (.invokevirtual 122, 3) := by decide +kernel
set_option maxRecDepth 50000 in
theorem lRL_122 : Cond.methodLink RL 122 yX11_looks ∈ qw_good := qw_g 968 rfl rfl
theorem dL_law_972 : decode cL_law 972 = .ok (.aload_n 2, 1) := by decide +kernel
theorem dL_law_973 : decode cL_law 973 = .ok (.invokevirtual 125, 3) := by decide +kernel
set_option maxRecDepth 50000 in
theorem lRL_125 : Cond.methodLink RL 125 yX12_looks ∈ qw_good := qw_g 1765 rfl rfl
theorem dL_law_976 : decode cL_law 976 = .ok (.if_icmp .eq 230, 3) := by decide +kernel
theorem dL_law_981 : decode cL_law 981 = .ok (.aload_n 1, 1) := by decide +kernel
theorem dL_law_982 : decode cL_law 982 = .ok (.invokevirtual 126, 3) := by decide +kernel
set_option maxRecDepth 50000 in
theorem lRL_126 : Cond.methodLink RL 126 yX11_lookSet ∈ qw_good := qw_g 986 rfl rfl
theorem dL_law_985 : decode cL_law 985 = .ok (.aload_n 2, 1) := by decide +kernel
theorem dL_law_986 : decode cL_law 986 = .ok (.invokevirtual 129, 3) := by decide +kernel
set_option maxRecDepth 50000 in
theorem lRL_129 : Cond.methodLink RL 129 yX12_lookSet ∈ qw_good := qw_g 1773 rfl rfl
theorem dL_law_989 : decode cL_law 989 = .ok (.if_icmp .eq 217, 3) := by decide +kernel
theorem dL_law_994 : decode cL_law 994 = .ok (.aload_n 1, 1) := by decide +kernel
theorem dL_law_995 : decode cL_law 995 = .ok (.aload_n 0, 1) := by decide +kernel
theorem dL_law_996 : decode cL_law 996 = .ok (.iload 4, 2) := by decide +kernel
theorem dL_law_998 : decode cL_law 998 = .ok (.iconst 1, 1) := by decide +kernel
theorem dL_law_999 : decode cL_law 999 = .ok (.iadd, 1) := by decide +kernel
theorem dL_law_1000 : decode cL_law 1000 = .ok (.iaload, 1) := by decide +kernel
theorem dL_law_1001 : decode cL_law 1001 = .ok (.invokevirtual 130, 3) := by decide +kernel
set_option maxRecDepth 50000 in
theorem lRL_130 : Cond.methodLink RL 130 yX11_keep ∈ qw_good := qw_g 990 rfl rfl
theorem dL_law_1004 : decode cL_law 1004 = .ok (.aload_n 2, 1) := by decide +kernel
theorem dL_law_1005 : decode cL_law 1005 = .ok (.aload_n 0, 1) := by decide +kernel
theorem dL_law_1006 : decode cL_law 1006 = .ok (.iload 4, 2) := by decide +kernel
theorem dL_law_1008 : decode cL_law 1008 = .ok (.iconst 1, 1) := by decide +kernel
theorem dL_law_1009 : decode cL_law 1009 = .ok (.iadd, 1) := by decide +kernel
theorem dL_law_1010 : decode cL_law 1010 = .ok (.iaload, 1) := by decide +kernel
theorem dL_law_1011 : decode cL_law 1011 = .ok (.invokevirtual 133, 3) := by decide +kernel
set_option maxRecDepth 50000 in
theorem lRL_133 : Cond.methodLink RL 133 yX12_keep ∈ qw_good := qw_g 1777 rfl rfl
theorem dL_law_1014 : decode cL_law 1014 = .ok (.if_icmp .eq 192, 3) := by decide +kernel
set_option maxHeartbeats 4000000 in
set_option maxRecDepth 100000 in
theorem lc_16 {G : GT} {L : Nat} {xs : Nat → Int32} {i : Nat} (hi : i + 6 ≤ L) (hL : L ≤ 3072) {h : PH} (inv : Inv h) (rm : LwR h) (kk : ∀ h2, Inv h2 → Rm h h2 → LwE G L xs 1206 i h2) : LwE G L xs 819 i h := by
  refine x_aload_n (pc := 819) dL_law_819 rfl ?_
  refine x_aload_n (pc := 820) dL_law_820 rfl ?_
  refine x_iload (pc := 821) dL_law_821 rfl ?_
  refine x_iconst (v := 1) (pc := 823) dL_law_823 (by decide) ?_
  refine x_iadd (pc := 824) dL_law_824 ?_
  refine x_sld (pc := 825) dL_law_825 (sc_in 1 rfl (by omega) hL) ?_
  refine x_invV (As := [.int (xs (nI i + 1).toNatClampNeg)]) (st := []) (pc := 826) dL_law_826 lRL_102 fX11_goes vX11_goes inv.k0 rfl (Nat.le_of_ble_eq_true rfl) ⟨by decide, by decide⟩ (lw_C ⟨by have := rm.1; omega, by have := rm.2; omega⟩ (by decide) (by decide)) (sn_X11_goes G 0 0 (xs (nI i + 1).toNatClampNeg) h _ inv.k0 (op_goes inv (xs (nI i + 1).toNatClampNeg))) (k_i (fun r1 h1 hwp cx1 => ?_))
  have rm1 : qn h1 ≤ 10000 ∧ qz h1 ≤ 1000000 := ⟨by have := rm.1; have := cx1.2.1; omega, by have := rm.2; have := cx1.2.2; omega⟩
  have ok70 := inv.k70.ex cx1.1
  refine x_aload_n (pc := 829) dL_law_829 rfl ?_
  refine x_aload_n (pc := 830) dL_law_830 rfl ?_
  refine x_iload (pc := 831) dL_law_831 rfl ?_
  refine x_iconst (v := 1) (pc := 833) dL_law_833 (by decide) ?_
  refine x_iadd (pc := 834) dL_law_834 ?_
  refine x_sld (pc := 835) dL_law_835 (sc_in 1 rfl (by omega) hL) ?_
  refine x_invV (As := [.int (xs (nI i + 1).toNatClampNeg)]) (st := [.int r1]) (pc := 836) dL_law_836 lRL_105 fX12_goes vX12_goes ok70 rfl (Nat.le_of_ble_eq_true rfl) ⟨by decide, by decide⟩ (lw_C rm1 (by decide) (by decide)) (sn_X12_goes G 0 70 (xs (nI i + 1).toNatClampNeg) h1 _ ok70 hwp) (k_i (fun r2 h2 both cx2 => ?_))
  exact x_icmp_eq (tgt := 1206) (pc := 839) dL_law_839 (by decide) (fun _ => kk h2 both.2.1 both.2.2) (fun c => absurd both.1 c)

set_option maxHeartbeats 4000000 in
set_option maxRecDepth 100000 in
theorem lc_17 {G : GT} {L : Nat} {xs : Nat → Int32} {i : Nat} (hi : i + 6 ≤ L) (hL : L ≤ 3072) {h : PH} (inv : Inv h) (rm : LwR h) (kk : ∀ h2, Inv h2 → Rm h h2 → LwE G L xs 1206 i h2) : LwE G L xs 844 i h := by
  refine x_aload_n (pc := 844) dL_law_844 rfl ?_
  refine x_aload_n (pc := 845) dL_law_845 rfl ?_
  refine x_iload (pc := 846) dL_law_846 rfl ?_
  refine x_iconst (v := 1) (pc := 848) dL_law_848 (by decide) ?_
  refine x_iadd (pc := 849) dL_law_849 ?_
  refine x_sld (pc := 850) dL_law_850 (sc_in 1 rfl (by omega) hL) ?_
  refine x_invV (As := [.int (xs (nI i + 1).toNatClampNeg)]) (st := []) (pc := 851) dL_law_851 lRL_106 fX11_least vX11_least inv.k0 rfl (Nat.le_of_ble_eq_true rfl) ⟨by decide, by decide⟩ (lw_C ⟨by have := rm.1; omega, by have := rm.2; omega⟩ (by decide) (by decide)) (sn_X11_least G 0 0 (xs (nI i + 1).toNatClampNeg) h _ inv.k0 (op_least inv (xs (nI i + 1).toNatClampNeg))) (k_i (fun r1 h1 hwp cx1 => ?_))
  have rm1 : qn h1 ≤ 10000 ∧ qz h1 ≤ 1000000 := ⟨by have := rm.1; have := cx1.2.1; omega, by have := rm.2; have := cx1.2.2; omega⟩
  have ok70 := inv.k70.ex cx1.1
  refine x_aload_n (pc := 854) dL_law_854 rfl ?_
  refine x_aload_n (pc := 855) dL_law_855 rfl ?_
  refine x_iload (pc := 856) dL_law_856 rfl ?_
  refine x_iconst (v := 1) (pc := 858) dL_law_858 (by decide) ?_
  refine x_iadd (pc := 859) dL_law_859 ?_
  refine x_sld (pc := 860) dL_law_860 (sc_in 1 rfl (by omega) hL) ?_
  refine x_invV (As := [.int (xs (nI i + 1).toNatClampNeg)]) (st := [.int r1]) (pc := 861) dL_law_861 lRL_109 fX12_least vX12_least ok70 rfl (Nat.le_of_ble_eq_true rfl) ⟨by decide, by decide⟩ (lw_C rm1 (by decide) (by decide)) (sn_X12_least G 0 70 (xs (nI i + 1).toNatClampNeg) h1 _ ok70 hwp) (k_i (fun r2 h2 both cx2 => ?_))
  exact x_icmp_eq (tgt := 1206) (pc := 864) dL_law_864 (by decide) (fun _ => kk h2 both.2.1 both.2.2) (fun c => absurd both.1 c)

set_option maxHeartbeats 4000000 in
set_option maxRecDepth 100000 in
theorem lc_18 {G : GT} {L : Nat} {xs : Nat → Int32} {i : Nat} (hi : i + 6 ≤ L) (hL : L ≤ 3072) {h : PH} (inv : Inv h) (rm : LwR h) (kk : ∀ h2, Inv h2 → Rm h h2 → LwE G L xs 1206 i h2) : LwE G L xs 869 i h := by
  refine x_aload_n (pc := 869) dL_law_869 rfl ?_
  refine x_aload_n (pc := 870) dL_law_870 rfl ?_
  refine x_iload (pc := 871) dL_law_871 rfl ?_
  refine x_iconst (v := 1) (pc := 873) dL_law_873 (by decide) ?_
  refine x_iadd (pc := 874) dL_law_874 ?_
  refine x_sld (pc := 875) dL_law_875 (sc_in 1 rfl (by omega) hL) ?_
  refine x_invV (As := [.int (xs (nI i + 1).toNatClampNeg)]) (st := []) (pc := 876) dL_law_876 lRL_110 fX11_needs vX11_needs inv.k0 rfl (Nat.le_of_ble_eq_true rfl) ⟨by decide, by decide⟩ (lw_C ⟨by have := rm.1; omega, by have := rm.2; omega⟩ (by decide) (by decide)) (sn_X11_needs G 0 0 (xs (nI i + 1).toNatClampNeg) h _ inv.k0 (op_needs inv (xs (nI i + 1).toNatClampNeg))) (k_i (fun r1 h1 hwp cx1 => ?_))
  have rm1 : qn h1 ≤ 10000 ∧ qz h1 ≤ 1000000 := ⟨by have := rm.1; have := cx1.2.1; omega, by have := rm.2; have := cx1.2.2; omega⟩
  have ok70 := inv.k70.ex cx1.1
  refine x_aload_n (pc := 879) dL_law_879 rfl ?_
  refine x_aload_n (pc := 880) dL_law_880 rfl ?_
  refine x_iload (pc := 881) dL_law_881 rfl ?_
  refine x_iconst (v := 1) (pc := 883) dL_law_883 (by decide) ?_
  refine x_iadd (pc := 884) dL_law_884 ?_
  refine x_sld (pc := 885) dL_law_885 (sc_in 1 rfl (by omega) hL) ?_
  refine x_invV (As := [.int (xs (nI i + 1).toNatClampNeg)]) (st := [.int r1]) (pc := 886) dL_law_886 lRL_113 fX12_needs vX12_needs ok70 rfl (Nat.le_of_ble_eq_true rfl) ⟨by decide, by decide⟩ (lw_C rm1 (by decide) (by decide)) (sn_X12_needs G 0 70 (xs (nI i + 1).toNatClampNeg) h1 _ ok70 hwp) (k_i (fun r2 h2 both cx2 => ?_))
  exact x_icmp_eq (tgt := 1206) (pc := 889) dL_law_889 (by decide) (fun _ => kk h2 both.2.1 both.2.2) (fun c => absurd both.1 c)

set_option maxHeartbeats 4000000 in
set_option maxRecDepth 100000 in
theorem lc_19 {G : GT} {L : Nat} {xs : Nat → Int32} {i : Nat} (hi : i + 6 ≤ L) (hL : L ≤ 3072) {h : PH} (inv : Inv h) (rm : LwR h) (kk : ∀ h2, Inv h2 → Rm h h2 → LwE G L xs 1206 i h2) : LwE G L xs 894 i h := by
  refine x_aload_n (pc := 894) dL_law_894 rfl ?_
  refine x_aload_n (pc := 895) dL_law_895 rfl ?_
  refine x_iload (pc := 896) dL_law_896 rfl ?_
  refine x_iconst (v := 1) (pc := 898) dL_law_898 (by decide) ?_
  refine x_iadd (pc := 899) dL_law_899 ?_
  refine x_sld (pc := 900) dL_law_900 (sc_in 1 rfl (by omega) hL) ?_
  refine x_aload_n (pc := 901) dL_law_901 rfl ?_
  refine x_iload (pc := 902) dL_law_902 rfl ?_
  refine x_iconst (v := 2) (pc := 904) dL_law_904 (by decide) ?_
  refine x_iadd (pc := 905) dL_law_905 ?_
  refine x_sld (pc := 906) dL_law_906 (sc_in 2 rfl (by omega) hL) ?_
  refine x_invV (As := [.int (xs (nI i + 1).toNatClampNeg), .int (xs (nI i + 2).toNatClampNeg)]) (st := []) (pc := 907) dL_law_907 lRL_114 fX11_hidden vX11_hidden inv.k0 rfl (Nat.le_of_ble_eq_true rfl) ⟨by decide, by decide⟩ (lw_C ⟨by have := rm.1; omega, by have := rm.2; omega⟩ (by decide) (by decide)) (sn_X11_hidden G 0 0 (xs (nI i + 1).toNatClampNeg) (xs (nI i + 2).toNatClampNeg) h _ inv.k0 (op_hidden inv (xs (nI i + 1).toNatClampNeg) (xs (nI i + 2).toNatClampNeg))) (k_i (fun r1 h1 hwp cx1 => ?_))
  have rm1 : qn h1 ≤ 10000 ∧ qz h1 ≤ 1000000 := ⟨by have := rm.1; have := cx1.2.1; omega, by have := rm.2; have := cx1.2.2; omega⟩
  have ok70 := inv.k70.ex cx1.1
  refine x_aload_n (pc := 910) dL_law_910 rfl ?_
  refine x_aload_n (pc := 911) dL_law_911 rfl ?_
  refine x_iload (pc := 912) dL_law_912 rfl ?_
  refine x_iconst (v := 1) (pc := 914) dL_law_914 (by decide) ?_
  refine x_iadd (pc := 915) dL_law_915 ?_
  refine x_sld (pc := 916) dL_law_916 (sc_in 1 rfl (by omega) hL) ?_
  refine x_aload_n (pc := 917) dL_law_917 rfl ?_
  refine x_iload (pc := 918) dL_law_918 rfl ?_
  refine x_iconst (v := 2) (pc := 920) dL_law_920 (by decide) ?_
  refine x_iadd (pc := 921) dL_law_921 ?_
  refine x_sld (pc := 922) dL_law_922 (sc_in 2 rfl (by omega) hL) ?_
  refine x_invV (As := [.int (xs (nI i + 1).toNatClampNeg), .int (xs (nI i + 2).toNatClampNeg)]) (st := [.int r1]) (pc := 923) dL_law_923 lRL_117 fX12_hidden vX12_hidden ok70 rfl (Nat.le_of_ble_eq_true rfl) ⟨by decide, by decide⟩ (lw_C rm1 (by decide) (by decide)) (sn_X12_hidden G 0 70 (xs (nI i + 1).toNatClampNeg) (xs (nI i + 2).toNatClampNeg) h1 _ ok70 hwp) (k_i (fun r2 h2 both cx2 => ?_))
  exact x_icmp_eq (tgt := 1206) (pc := 926) dL_law_926 (by decide) (fun _ => kk h2 both.2.1 both.2.2) (fun c => absurd both.1 c)

set_option maxHeartbeats 4000000 in
set_option maxRecDepth 100000 in
theorem lc_20 {G : GT} {L : Nat} {xs : Nat → Int32} {i : Nat} (hi : i + 6 ≤ L) (hL : L ≤ 3072) {h : PH} (inv : Inv h) (rm : LwR h) (kk : ∀ h2, Inv h2 → Rm h h2 → LwE G L xs 1206 i h2) : LwE G L xs 931 i h := by
  refine x_aload_n (pc := 931) dL_law_931 rfl ?_
  refine x_aload_n (pc := 932) dL_law_932 rfl ?_
  refine x_iload (pc := 933) dL_law_933 rfl ?_
  refine x_iconst (v := 1) (pc := 935) dL_law_935 (by decide) ?_
  refine x_iadd (pc := 936) dL_law_936 ?_
  refine x_sld (pc := 937) dL_law_937 (sc_in 1 rfl (by omega) hL) ?_
  refine x_aload_n (pc := 938) dL_law_938 rfl ?_
  refine x_iload (pc := 939) dL_law_939 rfl ?_
  refine x_iconst (v := 2) (pc := 941) dL_law_941 (by decide) ?_
  refine x_iadd (pc := 942) dL_law_942 ?_
  refine x_sld (pc := 943) dL_law_943 (sc_in 2 rfl (by omega) hL) ?_
  refine x_invV (As := [.int (xs (nI i + 1).toNatClampNeg), .int (xs (nI i + 2).toNatClampNeg)]) (st := []) (pc := 944) dL_law_944 lRL_118 fX11_hiddenAt vX11_hiddenAt inv.k0 rfl (Nat.le_of_ble_eq_true rfl) ⟨by decide, by decide⟩ (lw_C ⟨by have := rm.1; omega, by have := rm.2; omega⟩ (by decide) (by decide)) (sn_X11_hiddenAt G 0 0 (xs (nI i + 1).toNatClampNeg) (xs (nI i + 2).toNatClampNeg) h _ inv.k0 (op_hiddenAt inv (xs (nI i + 1).toNatClampNeg) (xs (nI i + 2).toNatClampNeg))) (k_i (fun r1 h1 hwp cx1 => ?_))
  have rm1 : qn h1 ≤ 10000 ∧ qz h1 ≤ 1000000 := ⟨by have := rm.1; have := cx1.2.1; omega, by have := rm.2; have := cx1.2.2; omega⟩
  have ok70 := inv.k70.ex cx1.1
  refine x_aload_n (pc := 947) dL_law_947 rfl ?_
  refine x_aload_n (pc := 948) dL_law_948 rfl ?_
  refine x_iload (pc := 949) dL_law_949 rfl ?_
  refine x_iconst (v := 1) (pc := 951) dL_law_951 (by decide) ?_
  refine x_iadd (pc := 952) dL_law_952 ?_
  refine x_sld (pc := 953) dL_law_953 (sc_in 1 rfl (by omega) hL) ?_
  refine x_aload_n (pc := 954) dL_law_954 rfl ?_
  refine x_iload (pc := 955) dL_law_955 rfl ?_
  refine x_iconst (v := 2) (pc := 957) dL_law_957 (by decide) ?_
  refine x_iadd (pc := 958) dL_law_958 ?_
  refine x_sld (pc := 959) dL_law_959 (sc_in 2 rfl (by omega) hL) ?_
  refine x_invV (As := [.int (xs (nI i + 1).toNatClampNeg), .int (xs (nI i + 2).toNatClampNeg)]) (st := [.int r1]) (pc := 960) dL_law_960 lRL_121 fX12_hiddenAt vX12_hiddenAt ok70 rfl (Nat.le_of_ble_eq_true rfl) ⟨by decide, by decide⟩ (lw_C rm1 (by decide) (by decide)) (sn_X12_hiddenAt G 0 70 (xs (nI i + 1).toNatClampNeg) (xs (nI i + 2).toNatClampNeg) h1 _ ok70 hwp) (k_i (fun r2 h2 both cx2 => ?_))
  exact x_icmp_eq (tgt := 1206) (pc := 963) dL_law_963 (by decide) (fun _ => kk h2 both.2.1 both.2.2) (fun c => absurd both.1 c)

set_option maxHeartbeats 4000000 in
set_option maxRecDepth 100000 in
theorem lc_21 {G : GT} {L : Nat} {xs : Nat → Int32} {i : Nat} (hi : i + 6 ≤ L) (hL : L ≤ 3072) {h : PH} (inv : Inv h) (rm : LwR h) (kk : ∀ h2, Inv h2 → Rm h h2 → LwE G L xs 1206 i h2) : LwE G L xs 968 i h := by
  refine x_aload_n (pc := 968) dL_law_968 rfl ?_
  refine x_invV (As := []) (st := []) (pc := 969) dL_law_969 lRL_122 fX11_looks vX11_looks inv.k0 rfl (Nat.le_of_ble_eq_true rfl) ⟨by decide, by decide⟩ (lw_C ⟨by have := rm.1; omega, by have := rm.2; omega⟩ (by decide) (by decide)) (sn_X11_looks G 0 0  h _ inv.k0 (op_looks inv )) (k_i (fun r1 h1 hwp cx1 => ?_))
  have rm1 : qn h1 ≤ 10000 ∧ qz h1 ≤ 1000000 := ⟨by have := rm.1; have := cx1.2.1; omega, by have := rm.2; have := cx1.2.2; omega⟩
  have ok70 := inv.k70.ex cx1.1
  refine x_aload_n (pc := 972) dL_law_972 rfl ?_
  refine x_invV (As := []) (st := [.int r1]) (pc := 973) dL_law_973 lRL_125 fX12_looks vX12_looks ok70 rfl (Nat.le_of_ble_eq_true rfl) ⟨by decide, by decide⟩ (lw_C rm1 (by decide) (by decide)) (sn_X12_looks G 0 70  h1 _ ok70 hwp) (k_i (fun r2 h2 both cx2 => ?_))
  exact x_icmp_eq (tgt := 1206) (pc := 976) dL_law_976 (by decide) (fun _ => kk h2 both.2.1 both.2.2) (fun c => absurd both.1 c)

set_option maxHeartbeats 4000000 in
set_option maxRecDepth 100000 in
theorem lc_22 {G : GT} {L : Nat} {xs : Nat → Int32} {i : Nat} (hi : i + 6 ≤ L) (hL : L ≤ 3072) {h : PH} (inv : Inv h) (rm : LwR h) (kk : ∀ h2, Inv h2 → Rm h h2 → LwE G L xs 1206 i h2) : LwE G L xs 981 i h := by
  refine x_aload_n (pc := 981) dL_law_981 rfl ?_
  refine x_invV (As := []) (st := []) (pc := 982) dL_law_982 lRL_126 fX11_lookSet vX11_lookSet inv.k0 rfl (Nat.le_of_ble_eq_true rfl) ⟨by decide, by decide⟩ (lw_C ⟨by have := rm.1; omega, by have := rm.2; omega⟩ (by decide) (by decide)) (sn_X11_lookSet G 0 0  h _ inv.k0 (op_lookSet inv )) (k_i (fun r1 h1 hwp cx1 => ?_))
  have rm1 : qn h1 ≤ 10000 ∧ qz h1 ≤ 1000000 := ⟨by have := rm.1; have := cx1.2.1; omega, by have := rm.2; have := cx1.2.2; omega⟩
  have ok70 := inv.k70.ex cx1.1
  refine x_aload_n (pc := 985) dL_law_985 rfl ?_
  refine x_invV (As := []) (st := [.int r1]) (pc := 986) dL_law_986 lRL_129 fX12_lookSet vX12_lookSet ok70 rfl (Nat.le_of_ble_eq_true rfl) ⟨by decide, by decide⟩ (lw_C rm1 (by decide) (by decide)) (sn_X12_lookSet G 0 70  h1 _ ok70 hwp) (k_i (fun r2 h2 both cx2 => ?_))
  exact x_icmp_eq (tgt := 1206) (pc := 989) dL_law_989 (by decide) (fun _ => kk h2 both.2.1 both.2.2) (fun c => absurd both.1 c)

set_option maxHeartbeats 4000000 in
set_option maxRecDepth 100000 in
theorem lc_23 {G : GT} {L : Nat} {xs : Nat → Int32} {i : Nat} (hi : i + 6 ≤ L) (hL : L ≤ 3072) {h : PH} (inv : Inv h) (rm : LwR h) (kk : ∀ h2, Inv h2 → Rm h h2 → LwE G L xs 1206 i h2) : LwE G L xs 994 i h := by
  refine x_aload_n (pc := 994) dL_law_994 rfl ?_
  refine x_aload_n (pc := 995) dL_law_995 rfl ?_
  refine x_iload (pc := 996) dL_law_996 rfl ?_
  refine x_iconst (v := 1) (pc := 998) dL_law_998 (by decide) ?_
  refine x_iadd (pc := 999) dL_law_999 ?_
  refine x_sld (pc := 1000) dL_law_1000 (sc_in 1 rfl (by omega) hL) ?_
  by_cases hx : ∀ k, k < 6 → xs (nI i + 1).toNatClampNeg = nI k → qR h 23 k ≠ none
  · have hk9 := hx
    refine x_invV (As := [.int (xs (nI i + 1).toNatClampNeg)]) (st := []) (pc := 1001) dL_law_1001 lRL_130 fX11_keep vX11_keep inv.k0 rfl (Nat.le_of_ble_eq_true rfl) ⟨by decide, by decide⟩ (lw_C ⟨by have := rm.1; omega, by have := rm.2; omega⟩ (by decide) (by decide)) (sn_X11_keep G 0 0 (xs (nI i + 1).toNatClampNeg) h _ inv.k0 (op_keep inv (xs (nI i + 1).toNatClampNeg) hx)) (k_b (fun r1 h1 hwp _ cx1 => ?_))
    have rm1 : qn h1 ≤ 10000 ∧ qz h1 ≤ 1000000 := ⟨by have := rm.1; have := cx1.2.1; omega, by have := rm.2; have := cx1.2.2; omega⟩
    have ok70 := inv.k70.ex cx1.1
    refine x_aload_n (pc := 1004) dL_law_1004 rfl ?_
    refine x_aload_n (pc := 1005) dL_law_1005 rfl ?_
    refine x_iload (pc := 1006) dL_law_1006 rfl ?_
    refine x_iconst (v := 1) (pc := 1008) dL_law_1008 (by decide) ?_
    refine x_iadd (pc := 1009) dL_law_1009 ?_
    refine x_sld (pc := 1010) dL_law_1010 (sc_in 1 rfl (by omega) hL) ?_
    refine x_invV (As := [.int (xs (nI i + 1).toNatClampNeg)]) (st := [.int r1]) (pc := 1011) dL_law_1011 lRL_133 fX12_keep vX12_keep ok70 rfl (Nat.le_of_ble_eq_true rfl) ⟨by decide, by decide⟩ (lw_C rm1 (by decide) (by decide)) (sn_X12_keep G 0 70 (xs (nI i + 1).toNatClampNeg) h1 _ ok70 hwp) (k_b (fun r2 h2 both _ cx2 => ?_))
    exact x_icmp_eq (tgt := 1206) (pc := 1014) dL_law_1014 (by decide) (fun _ => kk h2 both.2.1 both.2.2) (fun c => absurd both.1 c)
  · have hx2 : ∃ k, k < 6 ∧ xs (nI i + 1).toNatClampNeg = nI k ∧ qR h 23 k = none := Classical.byContradiction (fun no => hx (fun k k6 ek k0 => no ⟨k, k6, ek, k0⟩))
    obtain ⟨k, k6, ek, k0⟩ := hx2
    refine x_invV (As := [.int (xs (nI i + 1).toNatClampNeg)]) (st := []) (pc := 1001) dL_law_1001 lRL_130 fX11_keep vX11_keep inv.k0 rfl (Nat.le_of_ble_eq_true rfl) ⟨by decide, by decide⟩ (lw_C ⟨by have := rm.1; omega, by have := rm.2; omega⟩ (by decide) (by decide)) (sn_X11_keepA G 0 0 (xs (nI i + 1).toNatClampNeg) h (fun r h1 => wp_X12_keep 70 (xs (nI i + 1).toNatClampNeg) h1 (Both h r)) inv.k0 (by rw [ek]; exact op_keepA inv k6 k0 (by have := rm.1; omega))) (k_b (fun r1 h1 hwp _ cx1 => ?_))
    have rm1 : qn h1 ≤ 10000 ∧ qz h1 ≤ 1000000 := ⟨by have := rm.1; have := cx1.2.1; omega, by have := rm.2; have := cx1.2.2; omega⟩
    have ok70 := inv.k70.ex cx1.1
    refine x_aload_n (pc := 1004) dL_law_1004 rfl ?_
    refine x_aload_n (pc := 1005) dL_law_1005 rfl ?_
    refine x_iload (pc := 1006) dL_law_1006 rfl ?_
    refine x_iconst (v := 1) (pc := 1008) dL_law_1008 (by decide) ?_
    refine x_iadd (pc := 1009) dL_law_1009 ?_
    refine x_sld (pc := 1010) dL_law_1010 (sc_in 1 rfl (by omega) hL) ?_
    refine x_invV (As := [.int (xs (nI i + 1).toNatClampNeg)]) (st := [.int r1]) (pc := 1011) dL_law_1011 lRL_133 fX12_keep vX12_keep ok70 rfl (Nat.le_of_ble_eq_true rfl) ⟨by decide, by decide⟩ (lw_C rm1 (by decide) (by decide)) (sn_X12_keep G 0 70 (xs (nI i + 1).toNatClampNeg) h1 _ ok70 hwp) (k_b (fun r2 h2 both _ cx2 => ?_))
    exact x_icmp_eq (tgt := 1206) (pc := 1014) dL_law_1014 (by decide) (fun _ => kk h2 both.2.1 both.2.2) (fun c => absurd both.1 c)
