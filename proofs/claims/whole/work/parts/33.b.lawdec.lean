/-! the law's code -/
theorem eL_782 (nm : String) : ax_dc (YL nm) 782 (.iadd) 1 783 := ⟨(by decide +kernel : decode code 782 = .ok (.iadd, 1)), rfl⟩
theorem eL_783 (nm : String) : ax_dc (YL nm) 783 (.iaload) 1 784 := ⟨(by decide +kernel : decode code 783 = .ok (.iaload, 1)), rfl⟩
theorem eL_784 (nm : String) : ax_dc (YL nm) 784 (.aload_n 0) 1 785 := ⟨(by decide +kernel : decode code 784 = .ok (.aload_n 0, 1)), rfl⟩
theorem eL_785 (nm : String) : ax_dc (YL nm) 785 (.iload_n 3) 1 786 := ⟨(by decide +kernel : decode code 785 = .ok (.iload_n 3, 1)), rfl⟩
theorem eL_786 (nm : String) : ax_dc (YL nm) 786 (.iconst 2) 1 787 := ⟨(by decide +kernel : decode code 786 = .ok (.iconst 2, 1)), rfl⟩
theorem eL_787 (nm : String) : ax_dc (YL nm) 787 (.iadd) 1 788 := ⟨(by decide +kernel : decode code 787 = .ok (.iadd, 1)), rfl⟩
theorem eL_788 (nm : String) : ax_dc (YL nm) 788 (.iaload) 1 789 := ⟨(by decide +kernel : decode code 788 = .ok (.iaload, 1)), rfl⟩
theorem eL_789 (nm : String) : ax_dc (YL nm) 789 (.invokevirtual 89) 3 792 := ⟨(by decide +kernel : decode code 789 = .ok (.invokevirtual 89, 3)), rfl⟩
theorem eL_792 (nm : String) : ax_dj (YL nm) 792 (.if_icmp .eq 615) 3 795 615 1407 := ⟨(by decide +kernel : decode code 792 = .ok (.if_icmp .eq 615, 3)), rfl, by decide⟩
theorem eL_795 (nm : String) : ax_dc (YL nm) 795 (.iconst 0) 1 796 := ⟨(by decide +kernel : decode code 795 = .ok (.iconst 0, 1)), rfl⟩
theorem eL_796 (nm : String) : ax_dc (YL nm) 796 (.ireturn) 1 797 := ⟨(by decide +kernel : decode code 796 = .ok (.ireturn, 1)), rfl⟩
theorem eL_797 (nm : String) : ax_dc (YL nm) 797 (.aload_n 1) 1 798 := ⟨(by decide +kernel : decode code 797 = .ok (.aload_n 1, 1)), rfl⟩
theorem eL_798 (nm : String) : ax_dc (YL nm) 798 (.aload_n 0) 1 799 := ⟨(by decide +kernel : decode code 798 = .ok (.aload_n 0, 1)), rfl⟩
theorem eL_799 (nm : String) : ax_dc (YL nm) 799 (.iload_n 3) 1 800 := ⟨(by decide +kernel : decode code 799 = .ok (.iload_n 3, 1)), rfl⟩
theorem eL_800 (nm : String) : ax_dc (YL nm) 800 (.iconst 1) 1 801 := ⟨(by decide +kernel : decode code 800 = .ok (.iconst 1, 1)), rfl⟩
theorem eL_801 (nm : String) : ax_dc (YL nm) 801 (.iadd) 1 802 := ⟨(by decide +kernel : decode code 801 = .ok (.iadd, 1)), rfl⟩
theorem eL_802 (nm : String) : ax_dc (YL nm) 802 (.iaload) 1 803 := ⟨(by decide +kernel : decode code 802 = .ok (.iaload, 1)), rfl⟩
theorem eL_803 (nm : String) : ax_dc (YL nm) 803 (.aload_n 0) 1 804 := ⟨(by decide +kernel : decode code 803 = .ok (.aload_n 0, 1)), rfl⟩
theorem eL_804 (nm : String) : ax_dc (YL nm) 804 (.iload_n 3) 1 805 := ⟨(by decide +kernel : decode code 804 = .ok (.iload_n 3, 1)), rfl⟩
theorem eL_805 (nm : String) : ax_dc (YL nm) 805 (.iconst 2) 1 806 := ⟨(by decide +kernel : decode code 805 = .ok (.iconst 2, 1)), rfl⟩
theorem eL_806 (nm : String) : ax_dc (YL nm) 806 (.iadd) 1 807 := ⟨(by decide +kernel : decode code 806 = .ok (.iadd, 1)), rfl⟩
theorem eL_807 (nm : String) : ax_dc (YL nm) 807 (.iaload) 1 808 := ⟨(by decide +kernel : decode code 807 = .ok (.iaload, 1)), rfl⟩
theorem eL_808 (nm : String) : ax_dc (YL nm) 808 (.invokevirtual 90) 3 811 := ⟨(by decide +kernel : decode code 808 = .ok (.invokevirtual 90, 3)), rfl⟩
theorem eL_811 (nm : String) : ax_dc (YL nm) 811 (.aload_n 2) 1 812 := ⟨(by decide +kernel : decode code 811 = .ok (.aload_n 2, 1)), rfl⟩
theorem eL_812 (nm : String) : ax_dc (YL nm) 812 (.aload_n 0) 1 813 := ⟨(by decide +kernel : decode code 812 = .ok (.aload_n 0, 1)), rfl⟩
theorem eL_813 (nm : String) : ax_dc (YL nm) 813 (.iload_n 3) 1 814 := ⟨(by decide +kernel : decode code 813 = .ok (.iload_n 3, 1)), rfl⟩
theorem eL_814 (nm : String) : ax_dc (YL nm) 814 (.iconst 1) 1 815 := ⟨(by decide +kernel : decode code 814 = .ok (.iconst 1, 1)), rfl⟩
theorem eL_815 (nm : String) : ax_dc (YL nm) 815 (.iadd) 1 816 := ⟨(by decide +kernel : decode code 815 = .ok (.iadd, 1)), rfl⟩
theorem eL_816 (nm : String) : ax_dc (YL nm) 816 (.iaload) 1 817 := ⟨(by decide +kernel : decode code 816 = .ok (.iaload, 1)), rfl⟩
theorem eL_817 (nm : String) : ax_dc (YL nm) 817 (.aload_n 0) 1 818 := ⟨(by decide +kernel : decode code 817 = .ok (.aload_n 0, 1)), rfl⟩
theorem eL_818 (nm : String) : ax_dc (YL nm) 818 (.iload_n 3) 1 819 := ⟨(by decide +kernel : decode code 818 = .ok (.iload_n 3, 1)), rfl⟩
theorem eL_819 (nm : String) : ax_dc (YL nm) 819 (.iconst 2) 1 820 := ⟨(by decide +kernel : decode code 819 = .ok (.iconst 2, 1)), rfl⟩
theorem eL_820 (nm : String) : ax_dc (YL nm) 820 (.iadd) 1 821 := ⟨(by decide +kernel : decode code 820 = .ok (.iadd, 1)), rfl⟩
theorem eL_821 (nm : String) : ax_dc (YL nm) 821 (.iaload) 1 822 := ⟨(by decide +kernel : decode code 821 = .ok (.iaload, 1)), rfl⟩
theorem eL_822 (nm : String) : ax_dc (YL nm) 822 (.invokevirtual 93) 3 825 := ⟨(by decide +kernel : decode code 822 = .ok (.invokevirtual 93, 3)), rfl⟩
theorem eL_825 (nm : String) : ax_dj (YL nm) 825 (.if_icmp .eq 582) 3 828 582 1407 := ⟨(by decide +kernel : decode code 825 = .ok (.if_icmp .eq 582, 3)), rfl, by decide⟩
theorem eL_828 (nm : String) : ax_dc (YL nm) 828 (.iconst 0) 1 829 := ⟨(by decide +kernel : decode code 828 = .ok (.iconst 0, 1)), rfl⟩
theorem eL_829 (nm : String) : ax_dc (YL nm) 829 (.ireturn) 1 830 := ⟨(by decide +kernel : decode code 829 = .ok (.ireturn, 1)), rfl⟩
theorem eL_830 (nm : String) : ax_dc (YL nm) 830 (.aload_n 1) 1 831 := ⟨(by decide +kernel : decode code 830 = .ok (.aload_n 1, 1)), rfl⟩
theorem eL_831 (nm : String) : ax_dc (YL nm) 831 (.aload_n 0) 1 832 := ⟨(by decide +kernel : decode code 831 = .ok (.aload_n 0, 1)), rfl⟩
theorem eL_832 (nm : String) : ax_dc (YL nm) 832 (.iload_n 3) 1 833 := ⟨(by decide +kernel : decode code 832 = .ok (.iload_n 3, 1)), rfl⟩
theorem eL_833 (nm : String) : ax_dc (YL nm) 833 (.iconst 1) 1 834 := ⟨(by decide +kernel : decode code 833 = .ok (.iconst 1, 1)), rfl⟩
theorem eL_834 (nm : String) : ax_dc (YL nm) 834 (.iadd) 1 835 := ⟨(by decide +kernel : decode code 834 = .ok (.iadd, 1)), rfl⟩
theorem eL_835 (nm : String) : ax_dc (YL nm) 835 (.iaload) 1 836 := ⟨(by decide +kernel : decode code 835 = .ok (.iaload, 1)), rfl⟩
theorem eL_836 (nm : String) : ax_dc (YL nm) 836 (.aload_n 0) 1 837 := ⟨(by decide +kernel : decode code 836 = .ok (.aload_n 0, 1)), rfl⟩
theorem eL_837 (nm : String) : ax_dc (YL nm) 837 (.iload_n 3) 1 838 := ⟨(by decide +kernel : decode code 837 = .ok (.iload_n 3, 1)), rfl⟩
theorem eL_838 (nm : String) : ax_dc (YL nm) 838 (.iconst 2) 1 839 := ⟨(by decide +kernel : decode code 838 = .ok (.iconst 2, 1)), rfl⟩
theorem eL_839 (nm : String) : ax_dc (YL nm) 839 (.iadd) 1 840 := ⟨(by decide +kernel : decode code 839 = .ok (.iadd, 1)), rfl⟩
theorem eL_840 (nm : String) : ax_dc (YL nm) 840 (.iaload) 1 841 := ⟨(by decide +kernel : decode code 840 = .ok (.iaload, 1)), rfl⟩
theorem eL_841 (nm : String) : ax_dc (YL nm) 841 (.invokevirtual 94) 3 844 := ⟨(by decide +kernel : decode code 841 = .ok (.invokevirtual 94, 3)), rfl⟩
theorem eL_844 (nm : String) : ax_dc (YL nm) 844 (.aload_n 2) 1 845 := ⟨(by decide +kernel : decode code 844 = .ok (.aload_n 2, 1)), rfl⟩
theorem eL_845 (nm : String) : ax_dc (YL nm) 845 (.aload_n 0) 1 846 := ⟨(by decide +kernel : decode code 845 = .ok (.aload_n 0, 1)), rfl⟩
theorem eL_846 (nm : String) : ax_dc (YL nm) 846 (.iload_n 3) 1 847 := ⟨(by decide +kernel : decode code 846 = .ok (.iload_n 3, 1)), rfl⟩
theorem eL_847 (nm : String) : ax_dc (YL nm) 847 (.iconst 1) 1 848 := ⟨(by decide +kernel : decode code 847 = .ok (.iconst 1, 1)), rfl⟩
theorem eL_848 (nm : String) : ax_dc (YL nm) 848 (.iadd) 1 849 := ⟨(by decide +kernel : decode code 848 = .ok (.iadd, 1)), rfl⟩
theorem eL_849 (nm : String) : ax_dc (YL nm) 849 (.iaload) 1 850 := ⟨(by decide +kernel : decode code 849 = .ok (.iaload, 1)), rfl⟩
theorem eL_850 (nm : String) : ax_dc (YL nm) 850 (.aload_n 0) 1 851 := ⟨(by decide +kernel : decode code 850 = .ok (.aload_n 0, 1)), rfl⟩
theorem eL_851 (nm : String) : ax_dc (YL nm) 851 (.iload_n 3) 1 852 := ⟨(by decide +kernel : decode code 851 = .ok (.iload_n 3, 1)), rfl⟩
theorem eL_852 (nm : String) : ax_dc (YL nm) 852 (.iconst 2) 1 853 := ⟨(by decide +kernel : decode code 852 = .ok (.iconst 2, 1)), rfl⟩
theorem eL_853 (nm : String) : ax_dc (YL nm) 853 (.iadd) 1 854 := ⟨(by decide +kernel : decode code 853 = .ok (.iadd, 1)), rfl⟩
theorem eL_854 (nm : String) : ax_dc (YL nm) 854 (.iaload) 1 855 := ⟨(by decide +kernel : decode code 854 = .ok (.iaload, 1)), rfl⟩
theorem eL_855 (nm : String) : ax_dc (YL nm) 855 (.invokevirtual 97) 3 858 := ⟨(by decide +kernel : decode code 855 = .ok (.invokevirtual 97, 3)), rfl⟩
theorem eL_858 (nm : String) : ax_dj (YL nm) 858 (.if_icmp .eq 549) 3 861 549 1407 := ⟨(by decide +kernel : decode code 858 = .ok (.if_icmp .eq 549, 3)), rfl, by decide⟩
theorem eL_861 (nm : String) : ax_dc (YL nm) 861 (.iconst 0) 1 862 := ⟨(by decide +kernel : decode code 861 = .ok (.iconst 0, 1)), rfl⟩
theorem eL_862 (nm : String) : ax_dc (YL nm) 862 (.ireturn) 1 863 := ⟨(by decide +kernel : decode code 862 = .ok (.ireturn, 1)), rfl⟩
theorem eL_863 (nm : String) : ax_dc (YL nm) 863 (.aload_n 1) 1 864 := ⟨(by decide +kernel : decode code 863 = .ok (.aload_n 1, 1)), rfl⟩
theorem eL_864 (nm : String) : ax_dc (YL nm) 864 (.aload_n 0) 1 865 := ⟨(by decide +kernel : decode code 864 = .ok (.aload_n 0, 1)), rfl⟩
theorem eL_865 (nm : String) : ax_dc (YL nm) 865 (.iload_n 3) 1 866 := ⟨(by decide +kernel : decode code 865 = .ok (.iload_n 3, 1)), rfl⟩
theorem eL_866 (nm : String) : ax_dc (YL nm) 866 (.iconst 1) 1 867 := ⟨(by decide +kernel : decode code 866 = .ok (.iconst 1, 1)), rfl⟩
theorem eL_867 (nm : String) : ax_dc (YL nm) 867 (.iadd) 1 868 := ⟨(by decide +kernel : decode code 867 = .ok (.iadd, 1)), rfl⟩
theorem eL_868 (nm : String) : ax_dc (YL nm) 868 (.iaload) 1 869 := ⟨(by decide +kernel : decode code 868 = .ok (.iaload, 1)), rfl⟩
theorem eL_869 (nm : String) : ax_dc (YL nm) 869 (.aload_n 0) 1 870 := ⟨(by decide +kernel : decode code 869 = .ok (.aload_n 0, 1)), rfl⟩
theorem eL_870 (nm : String) : ax_dc (YL nm) 870 (.iload_n 3) 1 871 := ⟨(by decide +kernel : decode code 870 = .ok (.iload_n 3, 1)), rfl⟩
theorem eL_871 (nm : String) : ax_dc (YL nm) 871 (.iconst 2) 1 872 := ⟨(by decide +kernel : decode code 871 = .ok (.iconst 2, 1)), rfl⟩
theorem eL_872 (nm : String) : ax_dc (YL nm) 872 (.iadd) 1 873 := ⟨(by decide +kernel : decode code 872 = .ok (.iadd, 1)), rfl⟩
theorem eL_873 (nm : String) : ax_dc (YL nm) 873 (.iaload) 1 874 := ⟨(by decide +kernel : decode code 873 = .ok (.iaload, 1)), rfl⟩
theorem eL_874 (nm : String) : ax_dc (YL nm) 874 (.invokevirtual 98) 3 877 := ⟨(by decide +kernel : decode code 874 = .ok (.invokevirtual 98, 3)), rfl⟩
theorem eL_877 (nm : String) : ax_dc (YL nm) 877 (.aload_n 2) 1 878 := ⟨(by decide +kernel : decode code 877 = .ok (.aload_n 2, 1)), rfl⟩
theorem eL_878 (nm : String) : ax_dc (YL nm) 878 (.aload_n 0) 1 879 := ⟨(by decide +kernel : decode code 878 = .ok (.aload_n 0, 1)), rfl⟩
theorem eL_879 (nm : String) : ax_dc (YL nm) 879 (.iload_n 3) 1 880 := ⟨(by decide +kernel : decode code 879 = .ok (.iload_n 3, 1)), rfl⟩
theorem eL_880 (nm : String) : ax_dc (YL nm) 880 (.iconst 1) 1 881 := ⟨(by decide +kernel : decode code 880 = .ok (.iconst 1, 1)), rfl⟩
theorem eL_881 (nm : String) : ax_dc (YL nm) 881 (.iadd) 1 882 := ⟨(by decide +kernel : decode code 881 = .ok (.iadd, 1)), rfl⟩
theorem eL_882 (nm : String) : ax_dc (YL nm) 882 (.iaload) 1 883 := ⟨(by decide +kernel : decode code 882 = .ok (.iaload, 1)), rfl⟩
theorem eL_883 (nm : String) : ax_dc (YL nm) 883 (.aload_n 0) 1 884 := ⟨(by decide +kernel : decode code 883 = .ok (.aload_n 0, 1)), rfl⟩
theorem eL_884 (nm : String) : ax_dc (YL nm) 884 (.iload_n 3) 1 885 := ⟨(by decide +kernel : decode code 884 = .ok (.iload_n 3, 1)), rfl⟩
theorem eL_885 (nm : String) : ax_dc (YL nm) 885 (.iconst 2) 1 886 := ⟨(by decide +kernel : decode code 885 = .ok (.iconst 2, 1)), rfl⟩
theorem eL_886 (nm : String) : ax_dc (YL nm) 886 (.iadd) 1 887 := ⟨(by decide +kernel : decode code 886 = .ok (.iadd, 1)), rfl⟩
theorem eL_887 (nm : String) : ax_dc (YL nm) 887 (.iaload) 1 888 := ⟨(by decide +kernel : decode code 887 = .ok (.iaload, 1)), rfl⟩
theorem eL_888 (nm : String) : ax_dc (YL nm) 888 (.invokevirtual 101) 3 891 := ⟨(by decide +kernel : decode code 888 = .ok (.invokevirtual 101, 3)), rfl⟩
theorem eL_891 (nm : String) : ax_dj (YL nm) 891 (.if_icmp .eq 516) 3 894 516 1407 := ⟨(by decide +kernel : decode code 891 = .ok (.if_icmp .eq 516, 3)), rfl, by decide⟩
theorem eL_894 (nm : String) : ax_dc (YL nm) 894 (.iconst 0) 1 895 := ⟨(by decide +kernel : decode code 894 = .ok (.iconst 0, 1)), rfl⟩
theorem eL_895 (nm : String) : ax_dc (YL nm) 895 (.ireturn) 1 896 := ⟨(by decide +kernel : decode code 895 = .ok (.ireturn, 1)), rfl⟩
theorem eL_896 (nm : String) : ax_dc (YL nm) 896 (.aload_n 1) 1 897 := ⟨(by decide +kernel : decode code 896 = .ok (.aload_n 1, 1)), rfl⟩
theorem eL_897 (nm : String) : ax_dc (YL nm) 897 (.aload_n 0) 1 898 := ⟨(by decide +kernel : decode code 897 = .ok (.aload_n 0, 1)), rfl⟩
theorem eL_898 (nm : String) : ax_dc (YL nm) 898 (.iload_n 3) 1 899 := ⟨(by decide +kernel : decode code 898 = .ok (.iload_n 3, 1)), rfl⟩
theorem eL_899 (nm : String) : ax_dc (YL nm) 899 (.iconst 1) 1 900 := ⟨(by decide +kernel : decode code 899 = .ok (.iconst 1, 1)), rfl⟩
theorem eL_900 (nm : String) : ax_dc (YL nm) 900 (.iadd) 1 901 := ⟨(by decide +kernel : decode code 900 = .ok (.iadd, 1)), rfl⟩
theorem eL_901 (nm : String) : ax_dc (YL nm) 901 (.iaload) 1 902 := ⟨(by decide +kernel : decode code 901 = .ok (.iaload, 1)), rfl⟩
theorem eL_902 (nm : String) : ax_dc (YL nm) 902 (.aload_n 0) 1 903 := ⟨(by decide +kernel : decode code 902 = .ok (.aload_n 0, 1)), rfl⟩
theorem eL_903 (nm : String) : ax_dc (YL nm) 903 (.iload_n 3) 1 904 := ⟨(by decide +kernel : decode code 903 = .ok (.iload_n 3, 1)), rfl⟩
theorem eL_904 (nm : String) : ax_dc (YL nm) 904 (.iconst 2) 1 905 := ⟨(by decide +kernel : decode code 904 = .ok (.iconst 2, 1)), rfl⟩
theorem eL_905 (nm : String) : ax_dc (YL nm) 905 (.iadd) 1 906 := ⟨(by decide +kernel : decode code 905 = .ok (.iadd, 1)), rfl⟩
theorem eL_906 (nm : String) : ax_dc (YL nm) 906 (.iaload) 1 907 := ⟨(by decide +kernel : decode code 906 = .ok (.iaload, 1)), rfl⟩
theorem eL_907 (nm : String) : ax_dc (YL nm) 907 (.aload_n 0) 1 908 := ⟨(by decide +kernel : decode code 907 = .ok (.aload_n 0, 1)), rfl⟩
theorem eL_908 (nm : String) : ax_dc (YL nm) 908 (.iload_n 3) 1 909 := ⟨(by decide +kernel : decode code 908 = .ok (.iload_n 3, 1)), rfl⟩
theorem eL_909 (nm : String) : ax_dc (YL nm) 909 (.iconst 3) 1 910 := ⟨(by decide +kernel : decode code 909 = .ok (.iconst 3, 1)), rfl⟩
theorem eL_910 (nm : String) : ax_dc (YL nm) 910 (.iadd) 1 911 := ⟨(by decide +kernel : decode code 910 = .ok (.iadd, 1)), rfl⟩
theorem eL_911 (nm : String) : ax_dc (YL nm) 911 (.iaload) 1 912 := ⟨(by decide +kernel : decode code 911 = .ok (.iaload, 1)), rfl⟩
theorem eL_912 (nm : String) : ax_dc (YL nm) 912 (.invokevirtual 102) 3 915 := ⟨(by decide +kernel : decode code 912 = .ok (.invokevirtual 102, 3)), rfl⟩
theorem eL_915 (nm : String) : ax_dc (YL nm) 915 (.aload_n 2) 1 916 := ⟨(by decide +kernel : decode code 915 = .ok (.aload_n 2, 1)), rfl⟩
theorem eL_916 (nm : String) : ax_dc (YL nm) 916 (.aload_n 0) 1 917 := ⟨(by decide +kernel : decode code 916 = .ok (.aload_n 0, 1)), rfl⟩
theorem eL_917 (nm : String) : ax_dc (YL nm) 917 (.iload_n 3) 1 918 := ⟨(by decide +kernel : decode code 917 = .ok (.iload_n 3, 1)), rfl⟩
theorem eL_918 (nm : String) : ax_dc (YL nm) 918 (.iconst 1) 1 919 := ⟨(by decide +kernel : decode code 918 = .ok (.iconst 1, 1)), rfl⟩
theorem eL_919 (nm : String) : ax_dc (YL nm) 919 (.iadd) 1 920 := ⟨(by decide +kernel : decode code 919 = .ok (.iadd, 1)), rfl⟩
theorem eL_920 (nm : String) : ax_dc (YL nm) 920 (.iaload) 1 921 := ⟨(by decide +kernel : decode code 920 = .ok (.iaload, 1)), rfl⟩
theorem eL_921 (nm : String) : ax_dc (YL nm) 921 (.aload_n 0) 1 922 := ⟨(by decide +kernel : decode code 921 = .ok (.aload_n 0, 1)), rfl⟩
theorem eL_922 (nm : String) : ax_dc (YL nm) 922 (.iload_n 3) 1 923 := ⟨(by decide +kernel : decode code 922 = .ok (.iload_n 3, 1)), rfl⟩
theorem eL_923 (nm : String) : ax_dc (YL nm) 923 (.iconst 2) 1 924 := ⟨(by decide +kernel : decode code 923 = .ok (.iconst 2, 1)), rfl⟩
theorem eL_924 (nm : String) : ax_dc (YL nm) 924 (.iadd) 1 925 := ⟨(by decide +kernel : decode code 924 = .ok (.iadd, 1)), rfl⟩
theorem eL_925 (nm : String) : ax_dc (YL nm) 925 (.iaload) 1 926 := ⟨(by decide +kernel : decode code 925 = .ok (.iaload, 1)), rfl⟩
theorem eL_926 (nm : String) : ax_dc (YL nm) 926 (.aload_n 0) 1 927 := ⟨(by decide +kernel : decode code 926 = .ok (.aload_n 0, 1)), rfl⟩
theorem eL_927 (nm : String) : ax_dc (YL nm) 927 (.iload_n 3) 1 928 := ⟨(by decide +kernel : decode code 927 = .ok (.iload_n 3, 1)), rfl⟩
theorem eL_928 (nm : String) : ax_dc (YL nm) 928 (.iconst 3) 1 929 := ⟨(by decide +kernel : decode code 928 = .ok (.iconst 3, 1)), rfl⟩
theorem eL_929 (nm : String) : ax_dc (YL nm) 929 (.iadd) 1 930 := ⟨(by decide +kernel : decode code 929 = .ok (.iadd, 1)), rfl⟩
theorem eL_930 (nm : String) : ax_dc (YL nm) 930 (.iaload) 1 931 := ⟨(by decide +kernel : decode code 930 = .ok (.iaload, 1)), rfl⟩
theorem eL_931 (nm : String) : ax_dc (YL nm) 931 (.invokevirtual 105) 3 934 := ⟨(by decide +kernel : decode code 931 = .ok (.invokevirtual 105, 3)), rfl⟩
theorem eL_934 (nm : String) : ax_dj (YL nm) 934 (.if_icmp .eq 473) 3 937 473 1407 := ⟨(by decide +kernel : decode code 934 = .ok (.if_icmp .eq 473, 3)), rfl, by decide⟩
theorem eL_937 (nm : String) : ax_dc (YL nm) 937 (.iconst 0) 1 938 := ⟨(by decide +kernel : decode code 937 = .ok (.iconst 0, 1)), rfl⟩
theorem eL_938 (nm : String) : ax_dc (YL nm) 938 (.ireturn) 1 939 := ⟨(by decide +kernel : decode code 938 = .ok (.ireturn, 1)), rfl⟩
theorem eL_939 (nm : String) : ax_dc (YL nm) 939 (.aload_n 1) 1 940 := ⟨(by decide +kernel : decode code 939 = .ok (.aload_n 1, 1)), rfl⟩
theorem eL_940 (nm : String) : ax_dc (YL nm) 940 (.aload_n 0) 1 941 := ⟨(by decide +kernel : decode code 940 = .ok (.aload_n 0, 1)), rfl⟩
theorem eL_941 (nm : String) : ax_dc (YL nm) 941 (.iload_n 3) 1 942 := ⟨(by decide +kernel : decode code 941 = .ok (.iload_n 3, 1)), rfl⟩
theorem eL_942 (nm : String) : ax_dc (YL nm) 942 (.iconst 1) 1 943 := ⟨(by decide +kernel : decode code 942 = .ok (.iconst 1, 1)), rfl⟩
theorem eL_943 (nm : String) : ax_dc (YL nm) 943 (.iadd) 1 944 := ⟨(by decide +kernel : decode code 943 = .ok (.iadd, 1)), rfl⟩
theorem eL_944 (nm : String) : ax_dc (YL nm) 944 (.iaload) 1 945 := ⟨(by decide +kernel : decode code 944 = .ok (.iaload, 1)), rfl⟩
theorem eL_945 (nm : String) : ax_dc (YL nm) 945 (.invokevirtual 106) 3 948 := ⟨(by decide +kernel : decode code 945 = .ok (.invokevirtual 106, 3)), rfl⟩
theorem eL_948 (nm : String) : ax_dc (YL nm) 948 (.aload_n 2) 1 949 := ⟨(by decide +kernel : decode code 948 = .ok (.aload_n 2, 1)), rfl⟩
theorem eL_949 (nm : String) : ax_dc (YL nm) 949 (.aload_n 0) 1 950 := ⟨(by decide +kernel : decode code 949 = .ok (.aload_n 0, 1)), rfl⟩
theorem eL_950 (nm : String) : ax_dc (YL nm) 950 (.iload_n 3) 1 951 := ⟨(by decide +kernel : decode code 950 = .ok (.iload_n 3, 1)), rfl⟩
theorem eL_951 (nm : String) : ax_dc (YL nm) 951 (.iconst 1) 1 952 := ⟨(by decide +kernel : decode code 951 = .ok (.iconst 1, 1)), rfl⟩
theorem eL_952 (nm : String) : ax_dc (YL nm) 952 (.iadd) 1 953 := ⟨(by decide +kernel : decode code 952 = .ok (.iadd, 1)), rfl⟩
theorem eL_953 (nm : String) : ax_dc (YL nm) 953 (.iaload) 1 954 := ⟨(by decide +kernel : decode code 953 = .ok (.iaload, 1)), rfl⟩
theorem eL_954 (nm : String) : ax_dc (YL nm) 954 (.invokevirtual 109) 3 957 := ⟨(by decide +kernel : decode code 954 = .ok (.invokevirtual 109, 3)), rfl⟩
theorem eL_957 (nm : String) : ax_dj (YL nm) 957 (.if_icmp .eq 450) 3 960 450 1407 := ⟨(by decide +kernel : decode code 957 = .ok (.if_icmp .eq 450, 3)), rfl, by decide⟩
theorem eL_960 (nm : String) : ax_dc (YL nm) 960 (.iconst 0) 1 961 := ⟨(by decide +kernel : decode code 960 = .ok (.iconst 0, 1)), rfl⟩
theorem eL_961 (nm : String) : ax_dc (YL nm) 961 (.ireturn) 1 962 := ⟨(by decide +kernel : decode code 961 = .ok (.ireturn, 1)), rfl⟩
theorem eL_962 (nm : String) : ax_dc (YL nm) 962 (.aload_n 1) 1 963 := ⟨(by decide +kernel : decode code 962 = .ok (.aload_n 1, 1)), rfl⟩
theorem eL_963 (nm : String) : ax_dc (YL nm) 963 (.aload_n 0) 1 964 := ⟨(by decide +kernel : decode code 963 = .ok (.aload_n 0, 1)), rfl⟩
theorem eL_964 (nm : String) : ax_dc (YL nm) 964 (.iload_n 3) 1 965 := ⟨(by decide +kernel : decode code 964 = .ok (.iload_n 3, 1)), rfl⟩
theorem eL_965 (nm : String) : ax_dc (YL nm) 965 (.iconst 1) 1 966 := ⟨(by decide +kernel : decode code 965 = .ok (.iconst 1, 1)), rfl⟩
theorem eL_966 (nm : String) : ax_dc (YL nm) 966 (.iadd) 1 967 := ⟨(by decide +kernel : decode code 966 = .ok (.iadd, 1)), rfl⟩
theorem eL_967 (nm : String) : ax_dc (YL nm) 967 (.iaload) 1 968 := ⟨(by decide +kernel : decode code 967 = .ok (.iaload, 1)), rfl⟩
theorem eL_968 (nm : String) : ax_dc (YL nm) 968 (.invokevirtual 110) 3 971 := ⟨(by decide +kernel : decode code 968 = .ok (.invokevirtual 110, 3)), rfl⟩
theorem eL_971 (nm : String) : ax_dc (YL nm) 971 (.aload_n 2) 1 972 := ⟨(by decide +kernel : decode code 971 = .ok (.aload_n 2, 1)), rfl⟩
theorem eL_972 (nm : String) : ax_dc (YL nm) 972 (.aload_n 0) 1 973 := ⟨(by decide +kernel : decode code 972 = .ok (.aload_n 0, 1)), rfl⟩
theorem eL_973 (nm : String) : ax_dc (YL nm) 973 (.iload_n 3) 1 974 := ⟨(by decide +kernel : decode code 973 = .ok (.iload_n 3, 1)), rfl⟩
theorem eL_974 (nm : String) : ax_dc (YL nm) 974 (.iconst 1) 1 975 := ⟨(by decide +kernel : decode code 974 = .ok (.iconst 1, 1)), rfl⟩
theorem eL_975 (nm : String) : ax_dc (YL nm) 975 (.iadd) 1 976 := ⟨(by decide +kernel : decode code 975 = .ok (.iadd, 1)), rfl⟩
theorem eL_976 (nm : String) : ax_dc (YL nm) 976 (.iaload) 1 977 := ⟨(by decide +kernel : decode code 976 = .ok (.iaload, 1)), rfl⟩
theorem eL_977 (nm : String) : ax_dc (YL nm) 977 (.invokevirtual 113) 3 980 := ⟨(by decide +kernel : decode code 977 = .ok (.invokevirtual 113, 3)), rfl⟩
theorem eL_980 (nm : String) : ax_dj (YL nm) 980 (.if_icmp .eq 427) 3 983 427 1407 := ⟨(by decide +kernel : decode code 980 = .ok (.if_icmp .eq 427, 3)), rfl, by decide⟩
theorem eL_983 (nm : String) : ax_dc (YL nm) 983 (.iconst 0) 1 984 := ⟨(by decide +kernel : decode code 983 = .ok (.iconst 0, 1)), rfl⟩
theorem eL_984 (nm : String) : ax_dc (YL nm) 984 (.ireturn) 1 985 := ⟨(by decide +kernel : decode code 984 = .ok (.ireturn, 1)), rfl⟩
theorem eL_985 (nm : String) : ax_dc (YL nm) 985 (.aload_n 1) 1 986 := ⟨(by decide +kernel : decode code 985 = .ok (.aload_n 1, 1)), rfl⟩
theorem eL_986 (nm : String) : ax_dc (YL nm) 986 (.invokevirtual 114) 3 989 := ⟨(by decide +kernel : decode code 986 = .ok (.invokevirtual 114, 3)), rfl⟩
theorem eL_989 (nm : String) : ax_dc (YL nm) 989 (.aload_n 2) 1 990 := ⟨(by decide +kernel : decode code 989 = .ok (.aload_n 2, 1)), rfl⟩
theorem eL_990 (nm : String) : ax_dc (YL nm) 990 (.invokevirtual 117) 3 993 := ⟨(by decide +kernel : decode code 990 = .ok (.invokevirtual 117, 3)), rfl⟩
theorem eL_993 (nm : String) : ax_dj (YL nm) 993 (.if_icmp .eq 414) 3 996 414 1407 := ⟨(by decide +kernel : decode code 993 = .ok (.if_icmp .eq 414, 3)), rfl, by decide⟩
theorem eL_996 (nm : String) : ax_dc (YL nm) 996 (.iconst 0) 1 997 := ⟨(by decide +kernel : decode code 996 = .ok (.iconst 0, 1)), rfl⟩
theorem eL_997 (nm : String) : ax_dc (YL nm) 997 (.ireturn) 1 998 := ⟨(by decide +kernel : decode code 997 = .ok (.ireturn, 1)), rfl⟩
theorem eL_998 (nm : String) : ax_dc (YL nm) 998 (.aload_n 1) 1 999 := ⟨(by decide +kernel : decode code 998 = .ok (.aload_n 1, 1)), rfl⟩
theorem eL_999 (nm : String) : ax_dc (YL nm) 999 (.aload_n 0) 1 1000 := ⟨(by decide +kernel : decode code 999 = .ok (.aload_n 0, 1)), rfl⟩
theorem eL_1000 (nm : String) : ax_dc (YL nm) 1000 (.iload_n 3) 1 1001 := ⟨(by decide +kernel : decode code 1000 = .ok (.iload_n 3, 1)), rfl⟩
theorem eL_1001 (nm : String) : ax_dc (YL nm) 1001 (.iconst 1) 1 1002 := ⟨(by decide +kernel : decode code 1001 = .ok (.iconst 1, 1)), rfl⟩
theorem eL_1002 (nm : String) : ax_dc (YL nm) 1002 (.iadd) 1 1003 := ⟨(by decide +kernel : decode code 1002 = .ok (.iadd, 1)), rfl⟩
theorem eL_1003 (nm : String) : ax_dc (YL nm) 1003 (.iaload) 1 1004 := ⟨(by decide +kernel : decode code 1003 = .ok (.iaload, 1)), rfl⟩
theorem eL_1004 (nm : String) : ax_dc (YL nm) 1004 (.aload_n 0) 1 1005 := ⟨(by decide +kernel : decode code 1004 = .ok (.aload_n 0, 1)), rfl⟩
theorem eL_1005 (nm : String) : ax_dc (YL nm) 1005 (.iload_n 3) 1 1006 := ⟨(by decide +kernel : decode code 1005 = .ok (.iload_n 3, 1)), rfl⟩
theorem eL_1006 (nm : String) : ax_dc (YL nm) 1006 (.iconst 2) 1 1007 := ⟨(by decide +kernel : decode code 1006 = .ok (.iconst 2, 1)), rfl⟩
theorem eL_1007 (nm : String) : ax_dc (YL nm) 1007 (.iadd) 1 1008 := ⟨(by decide +kernel : decode code 1007 = .ok (.iadd, 1)), rfl⟩
theorem eL_1008 (nm : String) : ax_dc (YL nm) 1008 (.iaload) 1 1009 := ⟨(by decide +kernel : decode code 1008 = .ok (.iaload, 1)), rfl⟩
theorem eL_1009 (nm : String) : ax_dc (YL nm) 1009 (.aload_n 0) 1 1010 := ⟨(by decide +kernel : decode code 1009 = .ok (.aload_n 0, 1)), rfl⟩
theorem eL_1010 (nm : String) : ax_dc (YL nm) 1010 (.iload_n 3) 1 1011 := ⟨(by decide +kernel : decode code 1010 = .ok (.iload_n 3, 1)), rfl⟩
theorem eL_1011 (nm : String) : ax_dc (YL nm) 1011 (.iconst 3) 1 1012 := ⟨(by decide +kernel : decode code 1011 = .ok (.iconst 3, 1)), rfl⟩
theorem eL_1012 (nm : String) : ax_dc (YL nm) 1012 (.iadd) 1 1013 := ⟨(by decide +kernel : decode code 1012 = .ok (.iadd, 1)), rfl⟩
theorem eL_1013 (nm : String) : ax_dc (YL nm) 1013 (.iaload) 1 1014 := ⟨(by decide +kernel : decode code 1013 = .ok (.iaload, 1)), rfl⟩
theorem eL_1014 (nm : String) : ax_dc (YL nm) 1014 (.invokevirtual 118) 3 1017 := ⟨(by decide +kernel : decode code 1014 = .ok (.invokevirtual 118, 3)), rfl⟩
theorem eL_1017 (nm : String) : ax_dc (YL nm) 1017 (.aload_n 2) 1 1018 := ⟨(by decide +kernel : decode code 1017 = .ok (.aload_n 2, 1)), rfl⟩
theorem eL_1018 (nm : String) : ax_dc (YL nm) 1018 (.aload_n 0) 1 1019 := ⟨(by decide +kernel : decode code 1018 = .ok (.aload_n 0, 1)), rfl⟩
theorem eL_1019 (nm : String) : ax_dc (YL nm) 1019 (.iload_n 3) 1 1020 := ⟨(by decide +kernel : decode code 1019 = .ok (.iload_n 3, 1)), rfl⟩
theorem eL_1020 (nm : String) : ax_dc (YL nm) 1020 (.iconst 1) 1 1021 := ⟨(by decide +kernel : decode code 1020 = .ok (.iconst 1, 1)), rfl⟩
theorem eL_1021 (nm : String) : ax_dc (YL nm) 1021 (.iadd) 1 1022 := ⟨(by decide +kernel : decode code 1021 = .ok (.iadd, 1)), rfl⟩
theorem eL_1022 (nm : String) : ax_dc (YL nm) 1022 (.iaload) 1 1023 := ⟨(by decide +kernel : decode code 1022 = .ok (.iaload, 1)), rfl⟩
theorem eL_1023 (nm : String) : ax_dc (YL nm) 1023 (.aload_n 0) 1 1024 := ⟨(by decide +kernel : decode code 1023 = .ok (.aload_n 0, 1)), rfl⟩
theorem eL_1024 (nm : String) : ax_dc (YL nm) 1024 (.iload_n 3) 1 1025 := ⟨(by decide +kernel : decode code 1024 = .ok (.iload_n 3, 1)), rfl⟩
theorem eL_1025 (nm : String) : ax_dc (YL nm) 1025 (.iconst 2) 1 1026 := ⟨(by decide +kernel : decode code 1025 = .ok (.iconst 2, 1)), rfl⟩
theorem eL_1026 (nm : String) : ax_dc (YL nm) 1026 (.iadd) 1 1027 := ⟨(by decide +kernel : decode code 1026 = .ok (.iadd, 1)), rfl⟩
theorem eL_1027 (nm : String) : ax_dc (YL nm) 1027 (.iaload) 1 1028 := ⟨(by decide +kernel : decode code 1027 = .ok (.iaload, 1)), rfl⟩
theorem eL_1028 (nm : String) : ax_dc (YL nm) 1028 (.aload_n 0) 1 1029 := ⟨(by decide +kernel : decode code 1028 = .ok (.aload_n 0, 1)), rfl⟩
theorem eL_1029 (nm : String) : ax_dc (YL nm) 1029 (.iload_n 3) 1 1030 := ⟨(by decide +kernel : decode code 1029 = .ok (.iload_n 3, 1)), rfl⟩
theorem eL_1030 (nm : String) : ax_dc (YL nm) 1030 (.iconst 3) 1 1031 := ⟨(by decide +kernel : decode code 1030 = .ok (.iconst 3, 1)), rfl⟩
theorem eL_1031 (nm : String) : ax_dc (YL nm) 1031 (.iadd) 1 1032 := ⟨(by decide +kernel : decode code 1031 = .ok (.iadd, 1)), rfl⟩
theorem eL_1032 (nm : String) : ax_dc (YL nm) 1032 (.iaload) 1 1033 := ⟨(by decide +kernel : decode code 1032 = .ok (.iaload, 1)), rfl⟩
theorem eL_1033 (nm : String) : ax_dc (YL nm) 1033 (.invokevirtual 121) 3 1036 := ⟨(by decide +kernel : decode code 1033 = .ok (.invokevirtual 121, 3)), rfl⟩
theorem eL_1036 (nm : String) : ax_dj (YL nm) 1036 (.if_icmp .eq 371) 3 1039 371 1407 := ⟨(by decide +kernel : decode code 1036 = .ok (.if_icmp .eq 371, 3)), rfl, by decide⟩
theorem eL_1039 (nm : String) : ax_dc (YL nm) 1039 (.iconst 0) 1 1040 := ⟨(by decide +kernel : decode code 1039 = .ok (.iconst 0, 1)), rfl⟩
theorem eL_1040 (nm : String) : ax_dc (YL nm) 1040 (.ireturn) 1 1041 := ⟨(by decide +kernel : decode code 1040 = .ok (.ireturn, 1)), rfl⟩
theorem eL_1041 (nm : String) : ax_dc (YL nm) 1041 (.aload_n 1) 1 1042 := ⟨(by decide +kernel : decode code 1041 = .ok (.aload_n 1, 1)), rfl⟩
theorem eL_1042 (nm : String) : ax_dc (YL nm) 1042 (.aload_n 0) 1 1043 := ⟨(by decide +kernel : decode code 1042 = .ok (.aload_n 0, 1)), rfl⟩
theorem eL_1043 (nm : String) : ax_dc (YL nm) 1043 (.iload_n 3) 1 1044 := ⟨(by decide +kernel : decode code 1043 = .ok (.iload_n 3, 1)), rfl⟩
theorem eL_1044 (nm : String) : ax_dc (YL nm) 1044 (.iconst 1) 1 1045 := ⟨(by decide +kernel : decode code 1044 = .ok (.iconst 1, 1)), rfl⟩
theorem eL_1045 (nm : String) : ax_dc (YL nm) 1045 (.iadd) 1 1046 := ⟨(by decide +kernel : decode code 1045 = .ok (.iadd, 1)), rfl⟩
theorem eL_1046 (nm : String) : ax_dc (YL nm) 1046 (.iaload) 1 1047 := ⟨(by decide +kernel : decode code 1046 = .ok (.iaload, 1)), rfl⟩
theorem eL_1047 (nm : String) : ax_dc (YL nm) 1047 (.invokevirtual 122) 3 1050 := ⟨(by decide +kernel : decode code 1047 = .ok (.invokevirtual 122, 3)), rfl⟩
theorem eL_1050 (nm : String) : ax_dc (YL nm) 1050 (.aload_n 2) 1 1051 := ⟨(by decide +kernel : decode code 1050 = .ok (.aload_n 2, 1)), rfl⟩
theorem eL_1051 (nm : String) : ax_dc (YL nm) 1051 (.aload_n 0) 1 1052 := ⟨(by decide +kernel : decode code 1051 = .ok (.aload_n 0, 1)), rfl⟩
theorem eL_1052 (nm : String) : ax_dc (YL nm) 1052 (.iload_n 3) 1 1053 := ⟨(by decide +kernel : decode code 1052 = .ok (.iload_n 3, 1)), rfl⟩
theorem eL_1053 (nm : String) : ax_dc (YL nm) 1053 (.iconst 1) 1 1054 := ⟨(by decide +kernel : decode code 1053 = .ok (.iconst 1, 1)), rfl⟩
theorem eL_1054 (nm : String) : ax_dc (YL nm) 1054 (.iadd) 1 1055 := ⟨(by decide +kernel : decode code 1054 = .ok (.iadd, 1)), rfl⟩
theorem eL_1055 (nm : String) : ax_dc (YL nm) 1055 (.iaload) 1 1056 := ⟨(by decide +kernel : decode code 1055 = .ok (.iaload, 1)), rfl⟩
theorem eL_1056 (nm : String) : ax_dc (YL nm) 1056 (.invokevirtual 125) 3 1059 := ⟨(by decide +kernel : decode code 1056 = .ok (.invokevirtual 125, 3)), rfl⟩
theorem eL_1059 (nm : String) : ax_dj (YL nm) 1059 (.if_icmp .eq 348) 3 1062 348 1407 := ⟨(by decide +kernel : decode code 1059 = .ok (.if_icmp .eq 348, 3)), rfl, by decide⟩
theorem eL_1062 (nm : String) : ax_dc (YL nm) 1062 (.iconst 0) 1 1063 := ⟨(by decide +kernel : decode code 1062 = .ok (.iconst 0, 1)), rfl⟩
theorem eL_1063 (nm : String) : ax_dc (YL nm) 1063 (.ireturn) 1 1064 := ⟨(by decide +kernel : decode code 1063 = .ok (.ireturn, 1)), rfl⟩
theorem eL_1064 (nm : String) : ax_dc (YL nm) 1064 (.aload_n 1) 1 1065 := ⟨(by decide +kernel : decode code 1064 = .ok (.aload_n 1, 1)), rfl⟩
theorem eL_1065 (nm : String) : ax_dc (YL nm) 1065 (.invokevirtual 126) 3 1068 := ⟨(by decide +kernel : decode code 1065 = .ok (.invokevirtual 126, 3)), rfl⟩
theorem eL_1068 (nm : String) : ax_dc (YL nm) 1068 (.aload_n 2) 1 1069 := ⟨(by decide +kernel : decode code 1068 = .ok (.aload_n 2, 1)), rfl⟩
theorem eL_1069 (nm : String) : ax_dc (YL nm) 1069 (.invokevirtual 129) 3 1072 := ⟨(by decide +kernel : decode code 1069 = .ok (.invokevirtual 129, 3)), rfl⟩
theorem eL_1072 (nm : String) : ax_dj (YL nm) 1072 (.if_icmp .eq 335) 3 1075 335 1407 := ⟨(by decide +kernel : decode code 1072 = .ok (.if_icmp .eq 335, 3)), rfl, by decide⟩
theorem eL_1075 (nm : String) : ax_dc (YL nm) 1075 (.iconst 0) 1 1076 := ⟨(by decide +kernel : decode code 1075 = .ok (.iconst 0, 1)), rfl⟩
theorem eL_1076 (nm : String) : ax_dc (YL nm) 1076 (.ireturn) 1 1077 := ⟨(by decide +kernel : decode code 1076 = .ok (.ireturn, 1)), rfl⟩
theorem eL_1077 (nm : String) : ax_dc (YL nm) 1077 (.aload_n 1) 1 1078 := ⟨(by decide +kernel : decode code 1077 = .ok (.aload_n 1, 1)), rfl⟩
theorem eL_1078 (nm : String) : ax_dc (YL nm) 1078 (.aload_n 0) 1 1079 := ⟨(by decide +kernel : decode code 1078 = .ok (.aload_n 0, 1)), rfl⟩
theorem eL_1079 (nm : String) : ax_dc (YL nm) 1079 (.iload_n 3) 1 1080 := ⟨(by decide +kernel : decode code 1079 = .ok (.iload_n 3, 1)), rfl⟩
theorem eL_1080 (nm : String) : ax_dc (YL nm) 1080 (.iconst 1) 1 1081 := ⟨(by decide +kernel : decode code 1080 = .ok (.iconst 1, 1)), rfl⟩
theorem eL_1081 (nm : String) : ax_dc (YL nm) 1081 (.iadd) 1 1082 := ⟨(by decide +kernel : decode code 1081 = .ok (.iadd, 1)), rfl⟩
theorem eL_1082 (nm : String) : ax_dc (YL nm) 1082 (.iaload) 1 1083 := ⟨(by decide +kernel : decode code 1082 = .ok (.iaload, 1)), rfl⟩
theorem eL_1083 (nm : String) : ax_dc (YL nm) 1083 (.invokevirtual 130) 3 1086 := ⟨(by decide +kernel : decode code 1083 = .ok (.invokevirtual 130, 3)), rfl⟩
theorem eL_1086 (nm : String) : ax_dc (YL nm) 1086 (.aload_n 2) 1 1087 := ⟨(by decide +kernel : decode code 1086 = .ok (.aload_n 2, 1)), rfl⟩
theorem eL_1087 (nm : String) : ax_dc (YL nm) 1087 (.aload_n 0) 1 1088 := ⟨(by decide +kernel : decode code 1087 = .ok (.aload_n 0, 1)), rfl⟩
theorem eL_1088 (nm : String) : ax_dc (YL nm) 1088 (.iload_n 3) 1 1089 := ⟨(by decide +kernel : decode code 1088 = .ok (.iload_n 3, 1)), rfl⟩
theorem eL_1089 (nm : String) : ax_dc (YL nm) 1089 (.iconst 1) 1 1090 := ⟨(by decide +kernel : decode code 1089 = .ok (.iconst 1, 1)), rfl⟩
theorem eL_1090 (nm : String) : ax_dc (YL nm) 1090 (.iadd) 1 1091 := ⟨(by decide +kernel : decode code 1090 = .ok (.iadd, 1)), rfl⟩
theorem eL_1091 (nm : String) : ax_dc (YL nm) 1091 (.iaload) 1 1092 := ⟨(by decide +kernel : decode code 1091 = .ok (.iaload, 1)), rfl⟩
theorem eL_1092 (nm : String) : ax_dc (YL nm) 1092 (.invokevirtual 133) 3 1095 := ⟨(by decide +kernel : decode code 1092 = .ok (.invokevirtual 133, 3)), rfl⟩
theorem eL_1095 (nm : String) : ax_dj (YL nm) 1095 (.if_icmp .eq 312) 3 1098 312 1407 := ⟨(by decide +kernel : decode code 1095 = .ok (.if_icmp .eq 312, 3)), rfl, by decide⟩
theorem eL_1098 (nm : String) : ax_dc (YL nm) 1098 (.iconst 0) 1 1099 := ⟨(by decide +kernel : decode code 1098 = .ok (.iconst 0, 1)), rfl⟩
theorem eL_1099 (nm : String) : ax_dc (YL nm) 1099 (.ireturn) 1 1100 := ⟨(by decide +kernel : decode code 1099 = .ok (.ireturn, 1)), rfl⟩
theorem eL_1100 (nm : String) : ax_dc (YL nm) 1100 (.aload_n 1) 1 1101 := ⟨(by decide +kernel : decode code 1100 = .ok (.aload_n 1, 1)), rfl⟩
theorem eL_1101 (nm : String) : ax_dc (YL nm) 1101 (.aload_n 0) 1 1102 := ⟨(by decide +kernel : decode code 1101 = .ok (.aload_n 0, 1)), rfl⟩
theorem eL_1102 (nm : String) : ax_dc (YL nm) 1102 (.iload_n 3) 1 1103 := ⟨(by decide +kernel : decode code 1102 = .ok (.iload_n 3, 1)), rfl⟩
theorem eL_1103 (nm : String) : ax_dc (YL nm) 1103 (.iconst 1) 1 1104 := ⟨(by decide +kernel : decode code 1103 = .ok (.iconst 1, 1)), rfl⟩
theorem eL_1104 (nm : String) : ax_dc (YL nm) 1104 (.iadd) 1 1105 := ⟨(by decide +kernel : decode code 1104 = .ok (.iadd, 1)), rfl⟩
theorem eL_1105 (nm : String) : ax_dc (YL nm) 1105 (.iaload) 1 1106 := ⟨(by decide +kernel : decode code 1105 = .ok (.iaload, 1)), rfl⟩
theorem eL_1106 (nm : String) : ax_dc (YL nm) 1106 (.aload_n 0) 1 1107 := ⟨(by decide +kernel : decode code 1106 = .ok (.aload_n 0, 1)), rfl⟩
theorem eL_1107 (nm : String) : ax_dc (YL nm) 1107 (.iload_n 3) 1 1108 := ⟨(by decide +kernel : decode code 1107 = .ok (.iload_n 3, 1)), rfl⟩
theorem eL_1108 (nm : String) : ax_dc (YL nm) 1108 (.iconst 2) 1 1109 := ⟨(by decide +kernel : decode code 1108 = .ok (.iconst 2, 1)), rfl⟩
theorem eL_1109 (nm : String) : ax_dc (YL nm) 1109 (.iadd) 1 1110 := ⟨(by decide +kernel : decode code 1109 = .ok (.iadd, 1)), rfl⟩
theorem eL_1110 (nm : String) : ax_dc (YL nm) 1110 (.iaload) 1 1111 := ⟨(by decide +kernel : decode code 1110 = .ok (.iaload, 1)), rfl⟩
theorem eL_1111 (nm : String) : ax_dc (YL nm) 1111 (.aload_n 0) 1 1112 := ⟨(by decide +kernel : decode code 1111 = .ok (.aload_n 0, 1)), rfl⟩
theorem eL_1112 (nm : String) : ax_dc (YL nm) 1112 (.iload_n 3) 1 1113 := ⟨(by decide +kernel : decode code 1112 = .ok (.iload_n 3, 1)), rfl⟩
theorem eL_1113 (nm : String) : ax_dc (YL nm) 1113 (.iconst 3) 1 1114 := ⟨(by decide +kernel : decode code 1113 = .ok (.iconst 3, 1)), rfl⟩
theorem eL_1114 (nm : String) : ax_dc (YL nm) 1114 (.iadd) 1 1115 := ⟨(by decide +kernel : decode code 1114 = .ok (.iadd, 1)), rfl⟩
theorem eL_1115 (nm : String) : ax_dc (YL nm) 1115 (.iaload) 1 1116 := ⟨(by decide +kernel : decode code 1115 = .ok (.iaload, 1)), rfl⟩
theorem eL_1116 (nm : String) : ax_dc (YL nm) 1116 (.invokevirtual 134) 3 1119 := ⟨(by decide +kernel : decode code 1116 = .ok (.invokevirtual 134, 3)), rfl⟩
theorem eL_1119 (nm : String) : ax_dc (YL nm) 1119 (.aload_n 2) 1 1120 := ⟨(by decide +kernel : decode code 1119 = .ok (.aload_n 2, 1)), rfl⟩
theorem eL_1120 (nm : String) : ax_dc (YL nm) 1120 (.aload_n 0) 1 1121 := ⟨(by decide +kernel : decode code 1120 = .ok (.aload_n 0, 1)), rfl⟩
theorem eL_1121 (nm : String) : ax_dc (YL nm) 1121 (.iload_n 3) 1 1122 := ⟨(by decide +kernel : decode code 1121 = .ok (.iload_n 3, 1)), rfl⟩
theorem eL_1122 (nm : String) : ax_dc (YL nm) 1122 (.iconst 1) 1 1123 := ⟨(by decide +kernel : decode code 1122 = .ok (.iconst 1, 1)), rfl⟩
theorem eL_1123 (nm : String) : ax_dc (YL nm) 1123 (.iadd) 1 1124 := ⟨(by decide +kernel : decode code 1123 = .ok (.iadd, 1)), rfl⟩
theorem eL_1124 (nm : String) : ax_dc (YL nm) 1124 (.iaload) 1 1125 := ⟨(by decide +kernel : decode code 1124 = .ok (.iaload, 1)), rfl⟩
theorem eL_1125 (nm : String) : ax_dc (YL nm) 1125 (.aload_n 0) 1 1126 := ⟨(by decide +kernel : decode code 1125 = .ok (.aload_n 0, 1)), rfl⟩
theorem eL_1126 (nm : String) : ax_dc (YL nm) 1126 (.iload_n 3) 1 1127 := ⟨(by decide +kernel : decode code 1126 = .ok (.iload_n 3, 1)), rfl⟩
theorem eL_1127 (nm : String) : ax_dc (YL nm) 1127 (.iconst 2) 1 1128 := ⟨(by decide +kernel : decode code 1127 = .ok (.iconst 2, 1)), rfl⟩
theorem eL_1128 (nm : String) : ax_dc (YL nm) 1128 (.iadd) 1 1129 := ⟨(by decide +kernel : decode code 1128 = .ok (.iadd, 1)), rfl⟩
theorem eL_1129 (nm : String) : ax_dc (YL nm) 1129 (.iaload) 1 1130 := ⟨(by decide +kernel : decode code 1129 = .ok (.iaload, 1)), rfl⟩
theorem eL_1130 (nm : String) : ax_dc (YL nm) 1130 (.aload_n 0) 1 1131 := ⟨(by decide +kernel : decode code 1130 = .ok (.aload_n 0, 1)), rfl⟩
theorem eL_1131 (nm : String) : ax_dc (YL nm) 1131 (.iload_n 3) 1 1132 := ⟨(by decide +kernel : decode code 1131 = .ok (.iload_n 3, 1)), rfl⟩
theorem eL_1132 (nm : String) : ax_dc (YL nm) 1132 (.iconst 3) 1 1133 := ⟨(by decide +kernel : decode code 1132 = .ok (.iconst 3, 1)), rfl⟩
theorem eL_1133 (nm : String) : ax_dc (YL nm) 1133 (.iadd) 1 1134 := ⟨(by decide +kernel : decode code 1133 = .ok (.iadd, 1)), rfl⟩
theorem eL_1134 (nm : String) : ax_dc (YL nm) 1134 (.iaload) 1 1135 := ⟨(by decide +kernel : decode code 1134 = .ok (.iaload, 1)), rfl⟩
theorem eL_1135 (nm : String) : ax_dc (YL nm) 1135 (.invokevirtual 137) 3 1138 := ⟨(by decide +kernel : decode code 1135 = .ok (.invokevirtual 137, 3)), rfl⟩
theorem eL_1138 (nm : String) : ax_dj (YL nm) 1138 (.if_icmp .eq 269) 3 1141 269 1407 := ⟨(by decide +kernel : decode code 1138 = .ok (.if_icmp .eq 269, 3)), rfl, by decide⟩
theorem eL_1141 (nm : String) : ax_dc (YL nm) 1141 (.iconst 0) 1 1142 := ⟨(by decide +kernel : decode code 1141 = .ok (.iconst 0, 1)), rfl⟩
theorem eL_1142 (nm : String) : ax_dc (YL nm) 1142 (.ireturn) 1 1143 := ⟨(by decide +kernel : decode code 1142 = .ok (.ireturn, 1)), rfl⟩
theorem eL_1143 (nm : String) : ax_dc (YL nm) 1143 (.aload_n 1) 1 1144 := ⟨(by decide +kernel : decode code 1143 = .ok (.aload_n 1, 1)), rfl⟩
theorem eL_1144 (nm : String) : ax_dc (YL nm) 1144 (.aload_n 0) 1 1145 := ⟨(by decide +kernel : decode code 1144 = .ok (.aload_n 0, 1)), rfl⟩
theorem eL_1145 (nm : String) : ax_dc (YL nm) 1145 (.iload_n 3) 1 1146 := ⟨(by decide +kernel : decode code 1145 = .ok (.iload_n 3, 1)), rfl⟩
theorem eL_1146 (nm : String) : ax_dc (YL nm) 1146 (.iconst 1) 1 1147 := ⟨(by decide +kernel : decode code 1146 = .ok (.iconst 1, 1)), rfl⟩
theorem eL_1147 (nm : String) : ax_dc (YL nm) 1147 (.iadd) 1 1148 := ⟨(by decide +kernel : decode code 1147 = .ok (.iadd, 1)), rfl⟩
theorem eL_1148 (nm : String) : ax_dc (YL nm) 1148 (.iaload) 1 1149 := ⟨(by decide +kernel : decode code 1148 = .ok (.iaload, 1)), rfl⟩
theorem eL_1149 (nm : String) : ax_dc (YL nm) 1149 (.aload_n 0) 1 1150 := ⟨(by decide +kernel : decode code 1149 = .ok (.aload_n 0, 1)), rfl⟩
theorem eL_1150 (nm : String) : ax_dc (YL nm) 1150 (.iload_n 3) 1 1151 := ⟨(by decide +kernel : decode code 1150 = .ok (.iload_n 3, 1)), rfl⟩
theorem eL_1151 (nm : String) : ax_dc (YL nm) 1151 (.iconst 2) 1 1152 := ⟨(by decide +kernel : decode code 1151 = .ok (.iconst 2, 1)), rfl⟩
theorem eL_1152 (nm : String) : ax_dc (YL nm) 1152 (.iadd) 1 1153 := ⟨(by decide +kernel : decode code 1152 = .ok (.iadd, 1)), rfl⟩
theorem eL_1153 (nm : String) : ax_dc (YL nm) 1153 (.iaload) 1 1154 := ⟨(by decide +kernel : decode code 1153 = .ok (.iaload, 1)), rfl⟩
theorem eL_1154 (nm : String) : ax_dc (YL nm) 1154 (.aload_n 0) 1 1155 := ⟨(by decide +kernel : decode code 1154 = .ok (.aload_n 0, 1)), rfl⟩
theorem eL_1155 (nm : String) : ax_dc (YL nm) 1155 (.iload_n 3) 1 1156 := ⟨(by decide +kernel : decode code 1155 = .ok (.iload_n 3, 1)), rfl⟩
theorem eL_1156 (nm : String) : ax_dc (YL nm) 1156 (.iconst 3) 1 1157 := ⟨(by decide +kernel : decode code 1156 = .ok (.iconst 3, 1)), rfl⟩
theorem eL_1157 (nm : String) : ax_dc (YL nm) 1157 (.iadd) 1 1158 := ⟨(by decide +kernel : decode code 1157 = .ok (.iadd, 1)), rfl⟩
theorem eL_1158 (nm : String) : ax_dc (YL nm) 1158 (.iaload) 1 1159 := ⟨(by decide +kernel : decode code 1158 = .ok (.iaload, 1)), rfl⟩
theorem eL_1159 (nm : String) : ax_dc (YL nm) 1159 (.invokevirtual 138) 3 1162 := ⟨(by decide +kernel : decode code 1159 = .ok (.invokevirtual 138, 3)), rfl⟩
theorem eL_1162 (nm : String) : ax_dc (YL nm) 1162 (.aload_n 2) 1 1163 := ⟨(by decide +kernel : decode code 1162 = .ok (.aload_n 2, 1)), rfl⟩
theorem eL_1163 (nm : String) : ax_dc (YL nm) 1163 (.aload_n 0) 1 1164 := ⟨(by decide +kernel : decode code 1163 = .ok (.aload_n 0, 1)), rfl⟩
theorem eL_1164 (nm : String) : ax_dc (YL nm) 1164 (.iload_n 3) 1 1165 := ⟨(by decide +kernel : decode code 1164 = .ok (.iload_n 3, 1)), rfl⟩
theorem eL_1165 (nm : String) : ax_dc (YL nm) 1165 (.iconst 1) 1 1166 := ⟨(by decide +kernel : decode code 1165 = .ok (.iconst 1, 1)), rfl⟩
theorem eL_1166 (nm : String) : ax_dc (YL nm) 1166 (.iadd) 1 1167 := ⟨(by decide +kernel : decode code 1166 = .ok (.iadd, 1)), rfl⟩
theorem eL_1167 (nm : String) : ax_dc (YL nm) 1167 (.iaload) 1 1168 := ⟨(by decide +kernel : decode code 1167 = .ok (.iaload, 1)), rfl⟩
theorem eL_1168 (nm : String) : ax_dc (YL nm) 1168 (.aload_n 0) 1 1169 := ⟨(by decide +kernel : decode code 1168 = .ok (.aload_n 0, 1)), rfl⟩
theorem eL_1169 (nm : String) : ax_dc (YL nm) 1169 (.iload_n 3) 1 1170 := ⟨(by decide +kernel : decode code 1169 = .ok (.iload_n 3, 1)), rfl⟩
theorem eL_1170 (nm : String) : ax_dc (YL nm) 1170 (.iconst 2) 1 1171 := ⟨(by decide +kernel : decode code 1170 = .ok (.iconst 2, 1)), rfl⟩
theorem eL_1171 (nm : String) : ax_dc (YL nm) 1171 (.iadd) 1 1172 := ⟨(by decide +kernel : decode code 1171 = .ok (.iadd, 1)), rfl⟩
theorem eL_1172 (nm : String) : ax_dc (YL nm) 1172 (.iaload) 1 1173 := ⟨(by decide +kernel : decode code 1172 = .ok (.iaload, 1)), rfl⟩
theorem eL_1173 (nm : String) : ax_dc (YL nm) 1173 (.aload_n 0) 1 1174 := ⟨(by decide +kernel : decode code 1173 = .ok (.aload_n 0, 1)), rfl⟩
theorem eL_1174 (nm : String) : ax_dc (YL nm) 1174 (.iload_n 3) 1 1175 := ⟨(by decide +kernel : decode code 1174 = .ok (.iload_n 3, 1)), rfl⟩
theorem eL_1175 (nm : String) : ax_dc (YL nm) 1175 (.iconst 3) 1 1176 := ⟨(by decide +kernel : decode code 1175 = .ok (.iconst 3, 1)), rfl⟩
theorem eL_1176 (nm : String) : ax_dc (YL nm) 1176 (.iadd) 1 1177 := ⟨(by decide +kernel : decode code 1176 = .ok (.iadd, 1)), rfl⟩
theorem eL_1177 (nm : String) : ax_dc (YL nm) 1177 (.iaload) 1 1178 := ⟨(by decide +kernel : decode code 1177 = .ok (.iaload, 1)), rfl⟩
theorem eL_1178 (nm : String) : ax_dc (YL nm) 1178 (.invokevirtual 141) 3 1181 := ⟨(by decide +kernel : decode code 1178 = .ok (.invokevirtual 141, 3)), rfl⟩
theorem eL_1181 (nm : String) : ax_dj (YL nm) 1181 (.if_icmp .eq 226) 3 1184 226 1407 := ⟨(by decide +kernel : decode code 1181 = .ok (.if_icmp .eq 226, 3)), rfl, by decide⟩
theorem eL_1184 (nm : String) : ax_dc (YL nm) 1184 (.iconst 0) 1 1185 := ⟨(by decide +kernel : decode code 1184 = .ok (.iconst 0, 1)), rfl⟩
theorem eL_1185 (nm : String) : ax_dc (YL nm) 1185 (.ireturn) 1 1186 := ⟨(by decide +kernel : decode code 1185 = .ok (.ireturn, 1)), rfl⟩
theorem eL_1186 (nm : String) : ax_dc (YL nm) 1186 (.aload_n 1) 1 1187 := ⟨(by decide +kernel : decode code 1186 = .ok (.aload_n 1, 1)), rfl⟩
theorem eL_1187 (nm : String) : ax_dc (YL nm) 1187 (.aload_n 0) 1 1188 := ⟨(by decide +kernel : decode code 1187 = .ok (.aload_n 0, 1)), rfl⟩
theorem eL_1188 (nm : String) : ax_dc (YL nm) 1188 (.iload_n 3) 1 1189 := ⟨(by decide +kernel : decode code 1188 = .ok (.iload_n 3, 1)), rfl⟩
theorem eL_1189 (nm : String) : ax_dc (YL nm) 1189 (.iconst 1) 1 1190 := ⟨(by decide +kernel : decode code 1189 = .ok (.iconst 1, 1)), rfl⟩
theorem eL_1190 (nm : String) : ax_dc (YL nm) 1190 (.iadd) 1 1191 := ⟨(by decide +kernel : decode code 1190 = .ok (.iadd, 1)), rfl⟩
theorem eL_1191 (nm : String) : ax_dc (YL nm) 1191 (.iaload) 1 1192 := ⟨(by decide +kernel : decode code 1191 = .ok (.iaload, 1)), rfl⟩
theorem eL_1192 (nm : String) : ax_dc (YL nm) 1192 (.invokevirtual 142) 3 1195 := ⟨(by decide +kernel : decode code 1192 = .ok (.invokevirtual 142, 3)), rfl⟩
theorem eL_1195 (nm : String) : ax_dc (YL nm) 1195 (.aload_n 2) 1 1196 := ⟨(by decide +kernel : decode code 1195 = .ok (.aload_n 2, 1)), rfl⟩
theorem eL_1196 (nm : String) : ax_dc (YL nm) 1196 (.aload_n 0) 1 1197 := ⟨(by decide +kernel : decode code 1196 = .ok (.aload_n 0, 1)), rfl⟩
theorem eL_1197 (nm : String) : ax_dc (YL nm) 1197 (.iload_n 3) 1 1198 := ⟨(by decide +kernel : decode code 1197 = .ok (.iload_n 3, 1)), rfl⟩
theorem eL_1198 (nm : String) : ax_dc (YL nm) 1198 (.iconst 1) 1 1199 := ⟨(by decide +kernel : decode code 1198 = .ok (.iconst 1, 1)), rfl⟩
theorem eL_1199 (nm : String) : ax_dc (YL nm) 1199 (.iadd) 1 1200 := ⟨(by decide +kernel : decode code 1199 = .ok (.iadd, 1)), rfl⟩
theorem eL_1200 (nm : String) : ax_dc (YL nm) 1200 (.iaload) 1 1201 := ⟨(by decide +kernel : decode code 1200 = .ok (.iaload, 1)), rfl⟩
theorem eL_1201 (nm : String) : ax_dc (YL nm) 1201 (.invokevirtual 145) 3 1204 := ⟨(by decide +kernel : decode code 1201 = .ok (.invokevirtual 145, 3)), rfl⟩
theorem eL_1204 (nm : String) : ax_dj (YL nm) 1204 (.if_icmp .eq 203) 3 1207 203 1407 := ⟨(by decide +kernel : decode code 1204 = .ok (.if_icmp .eq 203, 3)), rfl, by decide⟩
theorem eL_1207 (nm : String) : ax_dc (YL nm) 1207 (.iconst 0) 1 1208 := ⟨(by decide +kernel : decode code 1207 = .ok (.iconst 0, 1)), rfl⟩
theorem eL_1208 (nm : String) : ax_dc (YL nm) 1208 (.ireturn) 1 1209 := ⟨(by decide +kernel : decode code 1208 = .ok (.ireturn, 1)), rfl⟩
theorem eL_1209 (nm : String) : ax_dc (YL nm) 1209 (.aload_n 1) 1 1210 := ⟨(by decide +kernel : decode code 1209 = .ok (.aload_n 1, 1)), rfl⟩
theorem eL_1210 (nm : String) : ax_dc (YL nm) 1210 (.aload_n 0) 1 1211 := ⟨(by decide +kernel : decode code 1210 = .ok (.aload_n 0, 1)), rfl⟩
theorem eL_1211 (nm : String) : ax_dc (YL nm) 1211 (.iload_n 3) 1 1212 := ⟨(by decide +kernel : decode code 1211 = .ok (.iload_n 3, 1)), rfl⟩
theorem eL_1212 (nm : String) : ax_dc (YL nm) 1212 (.iconst 1) 1 1213 := ⟨(by decide +kernel : decode code 1212 = .ok (.iconst 1, 1)), rfl⟩
theorem eL_1213 (nm : String) : ax_dc (YL nm) 1213 (.iadd) 1 1214 := ⟨(by decide +kernel : decode code 1213 = .ok (.iadd, 1)), rfl⟩
theorem eL_1214 (nm : String) : ax_dc (YL nm) 1214 (.iaload) 1 1215 := ⟨(by decide +kernel : decode code 1214 = .ok (.iaload, 1)), rfl⟩
theorem eL_1215 (nm : String) : ax_dc (YL nm) 1215 (.invokevirtual 146) 3 1218 := ⟨(by decide +kernel : decode code 1215 = .ok (.invokevirtual 146, 3)), rfl⟩
theorem eL_1218 (nm : String) : ax_dc (YL nm) 1218 (.aload_n 2) 1 1219 := ⟨(by decide +kernel : decode code 1218 = .ok (.aload_n 2, 1)), rfl⟩
theorem eL_1219 (nm : String) : ax_dc (YL nm) 1219 (.aload_n 0) 1 1220 := ⟨(by decide +kernel : decode code 1219 = .ok (.aload_n 0, 1)), rfl⟩
theorem eL_1220 (nm : String) : ax_dc (YL nm) 1220 (.iload_n 3) 1 1221 := ⟨(by decide +kernel : decode code 1220 = .ok (.iload_n 3, 1)), rfl⟩
theorem eL_1221 (nm : String) : ax_dc (YL nm) 1221 (.iconst 1) 1 1222 := ⟨(by decide +kernel : decode code 1221 = .ok (.iconst 1, 1)), rfl⟩
theorem eL_1222 (nm : String) : ax_dc (YL nm) 1222 (.iadd) 1 1223 := ⟨(by decide +kernel : decode code 1222 = .ok (.iadd, 1)), rfl⟩
theorem eL_1223 (nm : String) : ax_dc (YL nm) 1223 (.iaload) 1 1224 := ⟨(by decide +kernel : decode code 1223 = .ok (.iaload, 1)), rfl⟩
theorem eL_1224 (nm : String) : ax_dc (YL nm) 1224 (.invokevirtual 149) 3 1227 := ⟨(by decide +kernel : decode code 1224 = .ok (.invokevirtual 149, 3)), rfl⟩
theorem eL_1227 (nm : String) : ax_dj (YL nm) 1227 (.if_icmp .eq 180) 3 1230 180 1407 := ⟨(by decide +kernel : decode code 1227 = .ok (.if_icmp .eq 180, 3)), rfl, by decide⟩
theorem eL_1230 (nm : String) : ax_dc (YL nm) 1230 (.iconst 0) 1 1231 := ⟨(by decide +kernel : decode code 1230 = .ok (.iconst 0, 1)), rfl⟩
theorem eL_1231 (nm : String) : ax_dc (YL nm) 1231 (.ireturn) 1 1232 := ⟨(by decide +kernel : decode code 1231 = .ok (.ireturn, 1)), rfl⟩
theorem eL_1232 (nm : String) : ax_dc (YL nm) 1232 (.aload_n 1) 1 1233 := ⟨(by decide +kernel : decode code 1232 = .ok (.aload_n 1, 1)), rfl⟩
theorem eL_1233 (nm : String) : ax_dc (YL nm) 1233 (.aload_n 0) 1 1234 := ⟨(by decide +kernel : decode code 1233 = .ok (.aload_n 0, 1)), rfl⟩
theorem eL_1234 (nm : String) : ax_dc (YL nm) 1234 (.iload_n 3) 1 1235 := ⟨(by decide +kernel : decode code 1234 = .ok (.iload_n 3, 1)), rfl⟩
theorem eL_1235 (nm : String) : ax_dc (YL nm) 1235 (.iconst 1) 1 1236 := ⟨(by decide +kernel : decode code 1235 = .ok (.iconst 1, 1)), rfl⟩
theorem eL_1236 (nm : String) : ax_dc (YL nm) 1236 (.iadd) 1 1237 := ⟨(by decide +kernel : decode code 1236 = .ok (.iadd, 1)), rfl⟩
theorem eL_1237 (nm : String) : ax_dc (YL nm) 1237 (.iaload) 1 1238 := ⟨(by decide +kernel : decode code 1237 = .ok (.iaload, 1)), rfl⟩
theorem eL_1238 (nm : String) : ax_dc (YL nm) 1238 (.aload_n 0) 1 1239 := ⟨(by decide +kernel : decode code 1238 = .ok (.aload_n 0, 1)), rfl⟩
theorem eL_1239 (nm : String) : ax_dc (YL nm) 1239 (.iload_n 3) 1 1240 := ⟨(by decide +kernel : decode code 1239 = .ok (.iload_n 3, 1)), rfl⟩
theorem eL_1240 (nm : String) : ax_dc (YL nm) 1240 (.iconst 2) 1 1241 := ⟨(by decide +kernel : decode code 1240 = .ok (.iconst 2, 1)), rfl⟩
theorem eL_1241 (nm : String) : ax_dc (YL nm) 1241 (.iadd) 1 1242 := ⟨(by decide +kernel : decode code 1241 = .ok (.iadd, 1)), rfl⟩
theorem eL_1242 (nm : String) : ax_dc (YL nm) 1242 (.iaload) 1 1243 := ⟨(by decide +kernel : decode code 1242 = .ok (.iaload, 1)), rfl⟩
theorem eL_1243 (nm : String) : ax_dc (YL nm) 1243 (.aload_n 0) 1 1244 := ⟨(by decide +kernel : decode code 1243 = .ok (.aload_n 0, 1)), rfl⟩
theorem eL_1244 (nm : String) : ax_dc (YL nm) 1244 (.iload_n 3) 1 1245 := ⟨(by decide +kernel : decode code 1244 = .ok (.iload_n 3, 1)), rfl⟩
theorem eL_1245 (nm : String) : ax_dc (YL nm) 1245 (.iconst 3) 1 1246 := ⟨(by decide +kernel : decode code 1245 = .ok (.iconst 3, 1)), rfl⟩
theorem eL_1246 (nm : String) : ax_dc (YL nm) 1246 (.iadd) 1 1247 := ⟨(by decide +kernel : decode code 1246 = .ok (.iadd, 1)), rfl⟩
theorem eL_1247 (nm : String) : ax_dc (YL nm) 1247 (.iaload) 1 1248 := ⟨(by decide +kernel : decode code 1247 = .ok (.iaload, 1)), rfl⟩
theorem eL_1248 (nm : String) : ax_dc (YL nm) 1248 (.invokevirtual 150) 3 1251 := ⟨(by decide +kernel : decode code 1248 = .ok (.invokevirtual 150, 3)), rfl⟩
theorem eL_1251 (nm : String) : ax_dc (YL nm) 1251 (.aload_n 2) 1 1252 := ⟨(by decide +kernel : decode code 1251 = .ok (.aload_n 2, 1)), rfl⟩
theorem eL_1252 (nm : String) : ax_dc (YL nm) 1252 (.aload_n 0) 1 1253 := ⟨(by decide +kernel : decode code 1252 = .ok (.aload_n 0, 1)), rfl⟩
theorem eL_1253 (nm : String) : ax_dc (YL nm) 1253 (.iload_n 3) 1 1254 := ⟨(by decide +kernel : decode code 1253 = .ok (.iload_n 3, 1)), rfl⟩
theorem eL_1254 (nm : String) : ax_dc (YL nm) 1254 (.iconst 1) 1 1255 := ⟨(by decide +kernel : decode code 1254 = .ok (.iconst 1, 1)), rfl⟩
theorem eL_1255 (nm : String) : ax_dc (YL nm) 1255 (.iadd) 1 1256 := ⟨(by decide +kernel : decode code 1255 = .ok (.iadd, 1)), rfl⟩
theorem eL_1256 (nm : String) : ax_dc (YL nm) 1256 (.iaload) 1 1257 := ⟨(by decide +kernel : decode code 1256 = .ok (.iaload, 1)), rfl⟩
theorem eL_1257 (nm : String) : ax_dc (YL nm) 1257 (.aload_n 0) 1 1258 := ⟨(by decide +kernel : decode code 1257 = .ok (.aload_n 0, 1)), rfl⟩
theorem eL_1258 (nm : String) : ax_dc (YL nm) 1258 (.iload_n 3) 1 1259 := ⟨(by decide +kernel : decode code 1258 = .ok (.iload_n 3, 1)), rfl⟩
theorem eL_1259 (nm : String) : ax_dc (YL nm) 1259 (.iconst 2) 1 1260 := ⟨(by decide +kernel : decode code 1259 = .ok (.iconst 2, 1)), rfl⟩
theorem eL_1260 (nm : String) : ax_dc (YL nm) 1260 (.iadd) 1 1261 := ⟨(by decide +kernel : decode code 1260 = .ok (.iadd, 1)), rfl⟩
theorem eL_1261 (nm : String) : ax_dc (YL nm) 1261 (.iaload) 1 1262 := ⟨(by decide +kernel : decode code 1261 = .ok (.iaload, 1)), rfl⟩
theorem eL_1262 (nm : String) : ax_dc (YL nm) 1262 (.aload_n 0) 1 1263 := ⟨(by decide +kernel : decode code 1262 = .ok (.aload_n 0, 1)), rfl⟩
theorem eL_1263 (nm : String) : ax_dc (YL nm) 1263 (.iload_n 3) 1 1264 := ⟨(by decide +kernel : decode code 1263 = .ok (.iload_n 3, 1)), rfl⟩
theorem eL_1264 (nm : String) : ax_dc (YL nm) 1264 (.iconst 3) 1 1265 := ⟨(by decide +kernel : decode code 1264 = .ok (.iconst 3, 1)), rfl⟩
theorem eL_1265 (nm : String) : ax_dc (YL nm) 1265 (.iadd) 1 1266 := ⟨(by decide +kernel : decode code 1265 = .ok (.iadd, 1)), rfl⟩
theorem eL_1266 (nm : String) : ax_dc (YL nm) 1266 (.iaload) 1 1267 := ⟨(by decide +kernel : decode code 1266 = .ok (.iaload, 1)), rfl⟩
theorem eL_1267 (nm : String) : ax_dc (YL nm) 1267 (.invokevirtual 153) 3 1270 := ⟨(by decide +kernel : decode code 1267 = .ok (.invokevirtual 153, 3)), rfl⟩
theorem eL_1270 (nm : String) : ax_dj (YL nm) 1270 (.if_icmp .eq 137) 3 1273 137 1407 := ⟨(by decide +kernel : decode code 1270 = .ok (.if_icmp .eq 137, 3)), rfl, by decide⟩
theorem eL_1273 (nm : String) : ax_dc (YL nm) 1273 (.iconst 0) 1 1274 := ⟨(by decide +kernel : decode code 1273 = .ok (.iconst 0, 1)), rfl⟩
theorem eL_1274 (nm : String) : ax_dc (YL nm) 1274 (.ireturn) 1 1275 := ⟨(by decide +kernel : decode code 1274 = .ok (.ireturn, 1)), rfl⟩
theorem eL_1275 (nm : String) : ax_dc (YL nm) 1275 (.aload_n 1) 1 1276 := ⟨(by decide +kernel : decode code 1275 = .ok (.aload_n 1, 1)), rfl⟩
theorem eL_1276 (nm : String) : ax_dc (YL nm) 1276 (.aload_n 0) 1 1277 := ⟨(by decide +kernel : decode code 1276 = .ok (.aload_n 0, 1)), rfl⟩
theorem eL_1277 (nm : String) : ax_dc (YL nm) 1277 (.iload_n 3) 1 1278 := ⟨(by decide +kernel : decode code 1277 = .ok (.iload_n 3, 1)), rfl⟩
theorem eL_1278 (nm : String) : ax_dc (YL nm) 1278 (.iconst 1) 1 1279 := ⟨(by decide +kernel : decode code 1278 = .ok (.iconst 1, 1)), rfl⟩
theorem eL_1279 (nm : String) : ax_dc (YL nm) 1279 (.iadd) 1 1280 := ⟨(by decide +kernel : decode code 1279 = .ok (.iadd, 1)), rfl⟩
theorem eL_1280 (nm : String) : ax_dc (YL nm) 1280 (.iaload) 1 1281 := ⟨(by decide +kernel : decode code 1280 = .ok (.iaload, 1)), rfl⟩
theorem eL_1281 (nm : String) : ax_dc (YL nm) 1281 (.aload_n 0) 1 1282 := ⟨(by decide +kernel : decode code 1281 = .ok (.aload_n 0, 1)), rfl⟩
theorem eL_1282 (nm : String) : ax_dc (YL nm) 1282 (.iload_n 3) 1 1283 := ⟨(by decide +kernel : decode code 1282 = .ok (.iload_n 3, 1)), rfl⟩
theorem eL_1283 (nm : String) : ax_dc (YL nm) 1283 (.iconst 2) 1 1284 := ⟨(by decide +kernel : decode code 1283 = .ok (.iconst 2, 1)), rfl⟩
theorem eL_1284 (nm : String) : ax_dc (YL nm) 1284 (.iadd) 1 1285 := ⟨(by decide +kernel : decode code 1284 = .ok (.iadd, 1)), rfl⟩
theorem eL_1285 (nm : String) : ax_dc (YL nm) 1285 (.iaload) 1 1286 := ⟨(by decide +kernel : decode code 1285 = .ok (.iaload, 1)), rfl⟩
theorem eL_1286 (nm : String) : ax_dc (YL nm) 1286 (.aload_n 0) 1 1287 := ⟨(by decide +kernel : decode code 1286 = .ok (.aload_n 0, 1)), rfl⟩
theorem eL_1287 (nm : String) : ax_dc (YL nm) 1287 (.iload_n 3) 1 1288 := ⟨(by decide +kernel : decode code 1287 = .ok (.iload_n 3, 1)), rfl⟩
theorem eL_1288 (nm : String) : ax_dc (YL nm) 1288 (.iconst 3) 1 1289 := ⟨(by decide +kernel : decode code 1288 = .ok (.iconst 3, 1)), rfl⟩
theorem eL_1289 (nm : String) : ax_dc (YL nm) 1289 (.iadd) 1 1290 := ⟨(by decide +kernel : decode code 1289 = .ok (.iadd, 1)), rfl⟩
theorem eL_1290 (nm : String) : ax_dc (YL nm) 1290 (.iaload) 1 1291 := ⟨(by decide +kernel : decode code 1290 = .ok (.iaload, 1)), rfl⟩
theorem eL_1291 (nm : String) : ax_dc (YL nm) 1291 (.invokevirtual 154) 3 1294 := ⟨(by decide +kernel : decode code 1291 = .ok (.invokevirtual 154, 3)), rfl⟩
theorem eL_1294 (nm : String) : ax_dc (YL nm) 1294 (.aload_n 2) 1 1295 := ⟨(by decide +kernel : decode code 1294 = .ok (.aload_n 2, 1)), rfl⟩
theorem eL_1295 (nm : String) : ax_dc (YL nm) 1295 (.aload_n 0) 1 1296 := ⟨(by decide +kernel : decode code 1295 = .ok (.aload_n 0, 1)), rfl⟩
theorem eL_1296 (nm : String) : ax_dc (YL nm) 1296 (.iload_n 3) 1 1297 := ⟨(by decide +kernel : decode code 1296 = .ok (.iload_n 3, 1)), rfl⟩
theorem eL_1297 (nm : String) : ax_dc (YL nm) 1297 (.iconst 1) 1 1298 := ⟨(by decide +kernel : decode code 1297 = .ok (.iconst 1, 1)), rfl⟩
theorem eL_1298 (nm : String) : ax_dc (YL nm) 1298 (.iadd) 1 1299 := ⟨(by decide +kernel : decode code 1298 = .ok (.iadd, 1)), rfl⟩
theorem eL_1299 (nm : String) : ax_dc (YL nm) 1299 (.iaload) 1 1300 := ⟨(by decide +kernel : decode code 1299 = .ok (.iaload, 1)), rfl⟩
theorem eL_1300 (nm : String) : ax_dc (YL nm) 1300 (.aload_n 0) 1 1301 := ⟨(by decide +kernel : decode code 1300 = .ok (.aload_n 0, 1)), rfl⟩
theorem eL_1301 (nm : String) : ax_dc (YL nm) 1301 (.iload_n 3) 1 1302 := ⟨(by decide +kernel : decode code 1301 = .ok (.iload_n 3, 1)), rfl⟩
theorem eL_1302 (nm : String) : ax_dc (YL nm) 1302 (.iconst 2) 1 1303 := ⟨(by decide +kernel : decode code 1302 = .ok (.iconst 2, 1)), rfl⟩
theorem eL_1303 (nm : String) : ax_dc (YL nm) 1303 (.iadd) 1 1304 := ⟨(by decide +kernel : decode code 1303 = .ok (.iadd, 1)), rfl⟩
theorem eL_1304 (nm : String) : ax_dc (YL nm) 1304 (.iaload) 1 1305 := ⟨(by decide +kernel : decode code 1304 = .ok (.iaload, 1)), rfl⟩
theorem eL_1305 (nm : String) : ax_dc (YL nm) 1305 (.aload_n 0) 1 1306 := ⟨(by decide +kernel : decode code 1305 = .ok (.aload_n 0, 1)), rfl⟩
theorem eL_1306 (nm : String) : ax_dc (YL nm) 1306 (.iload_n 3) 1 1307 := ⟨(by decide +kernel : decode code 1306 = .ok (.iload_n 3, 1)), rfl⟩
theorem eL_1307 (nm : String) : ax_dc (YL nm) 1307 (.iconst 3) 1 1308 := ⟨(by decide +kernel : decode code 1307 = .ok (.iconst 3, 1)), rfl⟩
theorem eL_1308 (nm : String) : ax_dc (YL nm) 1308 (.iadd) 1 1309 := ⟨(by decide +kernel : decode code 1308 = .ok (.iadd, 1)), rfl⟩
theorem eL_1309 (nm : String) : ax_dc (YL nm) 1309 (.iaload) 1 1310 := ⟨(by decide +kernel : decode code 1309 = .ok (.iaload, 1)), rfl⟩
theorem eL_1310 (nm : String) : ax_dc (YL nm) 1310 (.invokevirtual 157) 3 1313 := ⟨(by decide +kernel : decode code 1310 = .ok (.invokevirtual 157, 3)), rfl⟩
theorem eL_1313 (nm : String) : ax_dj (YL nm) 1313 (.if_icmp .eq 94) 3 1316 94 1407 := ⟨(by decide +kernel : decode code 1313 = .ok (.if_icmp .eq 94, 3)), rfl, by decide⟩
theorem eL_1316 (nm : String) : ax_dc (YL nm) 1316 (.iconst 0) 1 1317 := ⟨(by decide +kernel : decode code 1316 = .ok (.iconst 0, 1)), rfl⟩
theorem eL_1317 (nm : String) : ax_dc (YL nm) 1317 (.ireturn) 1 1318 := ⟨(by decide +kernel : decode code 1317 = .ok (.ireturn, 1)), rfl⟩
theorem eL_1318 (nm : String) : ax_dc (YL nm) 1318 (.aload_n 1) 1 1319 := ⟨(by decide +kernel : decode code 1318 = .ok (.aload_n 1, 1)), rfl⟩
theorem eL_1319 (nm : String) : ax_dc (YL nm) 1319 (.aload_n 0) 1 1320 := ⟨(by decide +kernel : decode code 1319 = .ok (.aload_n 0, 1)), rfl⟩
theorem eL_1320 (nm : String) : ax_dc (YL nm) 1320 (.iload_n 3) 1 1321 := ⟨(by decide +kernel : decode code 1320 = .ok (.iload_n 3, 1)), rfl⟩
theorem eL_1321 (nm : String) : ax_dc (YL nm) 1321 (.iconst 1) 1 1322 := ⟨(by decide +kernel : decode code 1321 = .ok (.iconst 1, 1)), rfl⟩
theorem eL_1322 (nm : String) : ax_dc (YL nm) 1322 (.iadd) 1 1323 := ⟨(by decide +kernel : decode code 1322 = .ok (.iadd, 1)), rfl⟩
theorem eL_1323 (nm : String) : ax_dc (YL nm) 1323 (.iaload) 1 1324 := ⟨(by decide +kernel : decode code 1323 = .ok (.iaload, 1)), rfl⟩
theorem eL_1324 (nm : String) : ax_dc (YL nm) 1324 (.aload_n 0) 1 1325 := ⟨(by decide +kernel : decode code 1324 = .ok (.aload_n 0, 1)), rfl⟩
theorem eL_1325 (nm : String) : ax_dc (YL nm) 1325 (.iload_n 3) 1 1326 := ⟨(by decide +kernel : decode code 1325 = .ok (.iload_n 3, 1)), rfl⟩
theorem eL_1326 (nm : String) : ax_dc (YL nm) 1326 (.iconst 2) 1 1327 := ⟨(by decide +kernel : decode code 1326 = .ok (.iconst 2, 1)), rfl⟩
theorem eL_1327 (nm : String) : ax_dc (YL nm) 1327 (.iadd) 1 1328 := ⟨(by decide +kernel : decode code 1327 = .ok (.iadd, 1)), rfl⟩
theorem eL_1328 (nm : String) : ax_dc (YL nm) 1328 (.iaload) 1 1329 := ⟨(by decide +kernel : decode code 1328 = .ok (.iaload, 1)), rfl⟩
theorem eL_1329 (nm : String) : ax_dc (YL nm) 1329 (.aload_n 0) 1 1330 := ⟨(by decide +kernel : decode code 1329 = .ok (.aload_n 0, 1)), rfl⟩
theorem eL_1330 (nm : String) : ax_dc (YL nm) 1330 (.iload_n 3) 1 1331 := ⟨(by decide +kernel : decode code 1330 = .ok (.iload_n 3, 1)), rfl⟩
theorem eL_1331 (nm : String) : ax_dc (YL nm) 1331 (.iconst 3) 1 1332 := ⟨(by decide +kernel : decode code 1331 = .ok (.iconst 3, 1)), rfl⟩
theorem eL_1332 (nm : String) : ax_dc (YL nm) 1332 (.iadd) 1 1333 := ⟨(by decide +kernel : decode code 1332 = .ok (.iadd, 1)), rfl⟩
theorem eL_1333 (nm : String) : ax_dc (YL nm) 1333 (.iaload) 1 1334 := ⟨(by decide +kernel : decode code 1333 = .ok (.iaload, 1)), rfl⟩
theorem eL_1334 (nm : String) : ax_dc (YL nm) 1334 (.aload_n 0) 1 1335 := ⟨(by decide +kernel : decode code 1334 = .ok (.aload_n 0, 1)), rfl⟩
theorem eL_1335 (nm : String) : ax_dc (YL nm) 1335 (.iload_n 3) 1 1336 := ⟨(by decide +kernel : decode code 1335 = .ok (.iload_n 3, 1)), rfl⟩
theorem eL_1336 (nm : String) : ax_dc (YL nm) 1336 (.iconst 4) 1 1337 := ⟨(by decide +kernel : decode code 1336 = .ok (.iconst 4, 1)), rfl⟩
theorem eL_1337 (nm : String) : ax_dc (YL nm) 1337 (.iadd) 1 1338 := ⟨(by decide +kernel : decode code 1337 = .ok (.iadd, 1)), rfl⟩
theorem eL_1338 (nm : String) : ax_dc (YL nm) 1338 (.iaload) 1 1339 := ⟨(by decide +kernel : decode code 1338 = .ok (.iaload, 1)), rfl⟩
theorem eL_1339 (nm : String) : ax_dc (YL nm) 1339 (.invokevirtual 158) 3 1342 := ⟨(by decide +kernel : decode code 1339 = .ok (.invokevirtual 158, 3)), rfl⟩
theorem eL_1342 (nm : String) : ax_dc (YL nm) 1342 (.aload_n 2) 1 1343 := ⟨(by decide +kernel : decode code 1342 = .ok (.aload_n 2, 1)), rfl⟩
theorem eL_1343 (nm : String) : ax_dc (YL nm) 1343 (.aload_n 0) 1 1344 := ⟨(by decide +kernel : decode code 1343 = .ok (.aload_n 0, 1)), rfl⟩
theorem eL_1344 (nm : String) : ax_dc (YL nm) 1344 (.iload_n 3) 1 1345 := ⟨(by decide +kernel : decode code 1344 = .ok (.iload_n 3, 1)), rfl⟩
theorem eL_1345 (nm : String) : ax_dc (YL nm) 1345 (.iconst 1) 1 1346 := ⟨(by decide +kernel : decode code 1345 = .ok (.iconst 1, 1)), rfl⟩
theorem eL_1346 (nm : String) : ax_dc (YL nm) 1346 (.iadd) 1 1347 := ⟨(by decide +kernel : decode code 1346 = .ok (.iadd, 1)), rfl⟩
theorem eL_1347 (nm : String) : ax_dc (YL nm) 1347 (.iaload) 1 1348 := ⟨(by decide +kernel : decode code 1347 = .ok (.iaload, 1)), rfl⟩
theorem eL_1348 (nm : String) : ax_dc (YL nm) 1348 (.aload_n 0) 1 1349 := ⟨(by decide +kernel : decode code 1348 = .ok (.aload_n 0, 1)), rfl⟩
theorem eL_1349 (nm : String) : ax_dc (YL nm) 1349 (.iload_n 3) 1 1350 := ⟨(by decide +kernel : decode code 1349 = .ok (.iload_n 3, 1)), rfl⟩
theorem eL_1350 (nm : String) : ax_dc (YL nm) 1350 (.iconst 2) 1 1351 := ⟨(by decide +kernel : decode code 1350 = .ok (.iconst 2, 1)), rfl⟩
theorem eL_1351 (nm : String) : ax_dc (YL nm) 1351 (.iadd) 1 1352 := ⟨(by decide +kernel : decode code 1351 = .ok (.iadd, 1)), rfl⟩
theorem eL_1352 (nm : String) : ax_dc (YL nm) 1352 (.iaload) 1 1353 := ⟨(by decide +kernel : decode code 1352 = .ok (.iaload, 1)), rfl⟩
theorem eL_1353 (nm : String) : ax_dc (YL nm) 1353 (.aload_n 0) 1 1354 := ⟨(by decide +kernel : decode code 1353 = .ok (.aload_n 0, 1)), rfl⟩
theorem eL_1354 (nm : String) : ax_dc (YL nm) 1354 (.iload_n 3) 1 1355 := ⟨(by decide +kernel : decode code 1354 = .ok (.iload_n 3, 1)), rfl⟩
theorem eL_1355 (nm : String) : ax_dc (YL nm) 1355 (.iconst 3) 1 1356 := ⟨(by decide +kernel : decode code 1355 = .ok (.iconst 3, 1)), rfl⟩
theorem eL_1356 (nm : String) : ax_dc (YL nm) 1356 (.iadd) 1 1357 := ⟨(by decide +kernel : decode code 1356 = .ok (.iadd, 1)), rfl⟩
theorem eL_1357 (nm : String) : ax_dc (YL nm) 1357 (.iaload) 1 1358 := ⟨(by decide +kernel : decode code 1357 = .ok (.iaload, 1)), rfl⟩
theorem eL_1358 (nm : String) : ax_dc (YL nm) 1358 (.aload_n 0) 1 1359 := ⟨(by decide +kernel : decode code 1358 = .ok (.aload_n 0, 1)), rfl⟩
theorem eL_1359 (nm : String) : ax_dc (YL nm) 1359 (.iload_n 3) 1 1360 := ⟨(by decide +kernel : decode code 1359 = .ok (.iload_n 3, 1)), rfl⟩
theorem eL_1360 (nm : String) : ax_dc (YL nm) 1360 (.iconst 4) 1 1361 := ⟨(by decide +kernel : decode code 1360 = .ok (.iconst 4, 1)), rfl⟩
theorem eL_1361 (nm : String) : ax_dc (YL nm) 1361 (.iadd) 1 1362 := ⟨(by decide +kernel : decode code 1361 = .ok (.iadd, 1)), rfl⟩
theorem eL_1362 (nm : String) : ax_dc (YL nm) 1362 (.iaload) 1 1363 := ⟨(by decide +kernel : decode code 1362 = .ok (.iaload, 1)), rfl⟩
theorem eL_1363 (nm : String) : ax_dc (YL nm) 1363 (.invokevirtual 161) 3 1366 := ⟨(by decide +kernel : decode code 1363 = .ok (.invokevirtual 161, 3)), rfl⟩
theorem eL_1366 (nm : String) : ax_dj (YL nm) 1366 (.if_icmp .eq 41) 3 1369 41 1407 := ⟨(by decide +kernel : decode code 1366 = .ok (.if_icmp .eq 41, 3)), rfl, by decide⟩
theorem eL_1369 (nm : String) : ax_dc (YL nm) 1369 (.iconst 0) 1 1370 := ⟨(by decide +kernel : decode code 1369 = .ok (.iconst 0, 1)), rfl⟩
theorem eL_1370 (nm : String) : ax_dc (YL nm) 1370 (.ireturn) 1 1371 := ⟨(by decide +kernel : decode code 1370 = .ok (.ireturn, 1)), rfl⟩
theorem eL_1371 (nm : String) : ax_dc (YL nm) 1371 (.aload_n 1) 1 1372 := ⟨(by decide +kernel : decode code 1371 = .ok (.aload_n 1, 1)), rfl⟩
theorem eL_1372 (nm : String) : ax_dc (YL nm) 1372 (.invokevirtual 162) 3 1375 := ⟨(by decide +kernel : decode code 1372 = .ok (.invokevirtual 162, 3)), rfl⟩
theorem eL_1375 (nm : String) : ax_dc (YL nm) 1375 (.aload_n 2) 1 1376 := ⟨(by decide +kernel : decode code 1375 = .ok (.aload_n 2, 1)), rfl⟩
theorem eL_1376 (nm : String) : ax_dc (YL nm) 1376 (.invokevirtual 165) 3 1379 := ⟨(by decide +kernel : decode code 1376 = .ok (.invokevirtual 165, 3)), rfl⟩
theorem eL_1379 (nm : String) : ax_dj (YL nm) 1379 (.if_icmp .eq 28) 3 1382 28 1407 := ⟨(by decide +kernel : decode code 1379 = .ok (.if_icmp .eq 28, 3)), rfl, by decide⟩
theorem eL_1382 (nm : String) : ax_dc (YL nm) 1382 (.iconst 0) 1 1383 := ⟨(by decide +kernel : decode code 1382 = .ok (.iconst 0, 1)), rfl⟩
theorem eL_1383 (nm : String) : ax_dc (YL nm) 1383 (.ireturn) 1 1384 := ⟨(by decide +kernel : decode code 1383 = .ok (.ireturn, 1)), rfl⟩
theorem eL_1384 (nm : String) : ax_dc (YL nm) 1384 (.aload_n 1) 1 1385 := ⟨(by decide +kernel : decode code 1384 = .ok (.aload_n 1, 1)), rfl⟩
theorem eL_1385 (nm : String) : ax_dc (YL nm) 1385 (.aload_n 0) 1 1386 := ⟨(by decide +kernel : decode code 1385 = .ok (.aload_n 0, 1)), rfl⟩
theorem eL_1386 (nm : String) : ax_dc (YL nm) 1386 (.iload_n 3) 1 1387 := ⟨(by decide +kernel : decode code 1386 = .ok (.iload_n 3, 1)), rfl⟩
theorem eL_1387 (nm : String) : ax_dc (YL nm) 1387 (.iconst 1) 1 1388 := ⟨(by decide +kernel : decode code 1387 = .ok (.iconst 1, 1)), rfl⟩
theorem eL_1388 (nm : String) : ax_dc (YL nm) 1388 (.iadd) 1 1389 := ⟨(by decide +kernel : decode code 1388 = .ok (.iadd, 1)), rfl⟩
theorem eL_1389 (nm : String) : ax_dc (YL nm) 1389 (.iaload) 1 1390 := ⟨(by decide +kernel : decode code 1389 = .ok (.iaload, 1)), rfl⟩
theorem eL_1390 (nm : String) : ax_dc (YL nm) 1390 (.invokevirtual 166) 3 1393 := ⟨(by decide +kernel : decode code 1390 = .ok (.invokevirtual 166, 3)), rfl⟩
theorem eL_1393 (nm : String) : ax_dc (YL nm) 1393 (.aload_n 2) 1 1394 := ⟨(by decide +kernel : decode code 1393 = .ok (.aload_n 2, 1)), rfl⟩
theorem eL_1394 (nm : String) : ax_dc (YL nm) 1394 (.aload_n 0) 1 1395 := ⟨(by decide +kernel : decode code 1394 = .ok (.aload_n 0, 1)), rfl⟩
theorem eL_1395 (nm : String) : ax_dc (YL nm) 1395 (.iload_n 3) 1 1396 := ⟨(by decide +kernel : decode code 1395 = .ok (.iload_n 3, 1)), rfl⟩
theorem eL_1396 (nm : String) : ax_dc (YL nm) 1396 (.iconst 1) 1 1397 := ⟨(by decide +kernel : decode code 1396 = .ok (.iconst 1, 1)), rfl⟩
theorem eL_1397 (nm : String) : ax_dc (YL nm) 1397 (.iadd) 1 1398 := ⟨(by decide +kernel : decode code 1397 = .ok (.iadd, 1)), rfl⟩
theorem eL_1398 (nm : String) : ax_dc (YL nm) 1398 (.iaload) 1 1399 := ⟨(by decide +kernel : decode code 1398 = .ok (.iaload, 1)), rfl⟩
theorem eL_1399 (nm : String) : ax_dc (YL nm) 1399 (.invokevirtual 169) 3 1402 := ⟨(by decide +kernel : decode code 1399 = .ok (.invokevirtual 169, 3)), rfl⟩
theorem eL_1402 (nm : String) : ax_dj (YL nm) 1402 (.if_icmp .eq 5) 3 1405 5 1407 := ⟨(by decide +kernel : decode code 1402 = .ok (.if_icmp .eq 5, 3)), rfl, by decide⟩
theorem eL_1405 (nm : String) : ax_dc (YL nm) 1405 (.iconst 0) 1 1406 := ⟨(by decide +kernel : decode code 1405 = .ok (.iconst 0, 1)), rfl⟩
theorem eL_1406 (nm : String) : ax_dc (YL nm) 1406 (.ireturn) 1 1407 := ⟨(by decide +kernel : decode code 1406 = .ok (.ireturn, 1)), rfl⟩
theorem eL_1407 (nm : String) : ax_dc (YL nm) 1407 (.iinc 3 6) 3 1410 := ⟨(by decide +kernel : decode code 1407 = .ok (.iinc 3 6, 3)), rfl⟩
theorem eL_1410 (nm : String) : ax_dj (YL nm) 1410 (.goto (-1392)) 3 1413 (-1392) 18 := ⟨(by decide +kernel : decode code 1410 = .ok (.goto (-1392), 3)), rfl, by decide⟩
theorem eL_1413 (nm : String) : ax_dc (YL nm) 1413 (.iconst 1) 1 1414 := ⟨(by decide +kernel : decode code 1413 = .ok (.iconst 1, 1)), rfl⟩
theorem eL_1414 (nm : String) : ax_dc (YL nm) 1414 (.ireturn) 1 1415 := ⟨(by decide +kernel : decode code 1414 = .ok (.ireturn, 1)), rfl⟩
