/-! THE LAW: its cases, by program (wip/gen/gen5.py) -/
theorem dL_law_721 : decode cL_law 721 = .ok (.aload_n 1, 1) := by decide +kernel
theorem dL_law_722 : decode cL_law 722 = .ok (.aload_n 0, 1) := by decide +kernel
theorem dL_law_723 : decode cL_law 723 = .ok (.iload 4, 2) := by decide +kernel
theorem dL_law_725 : decode cL_law 725 = .ok (.iconst 1, 1) := by decide +kernel
theorem dL_law_726 : decode cL_law 726 = .ok (.iadd, 1) := by decide +kernel
theorem dL_law_727 : decode cL_law 727 = .ok (.iaload, 1) := by decide +kernel
theorem dL_law_728 : decode cL_law 728 = .ok (.invokevirtual 86, 3) := by decide +kernel
theorem dL_law_731 : decode cL_law 731 = .ok (.aload_n 2, 1) := by decide +kernel
theorem dL_law_732 : decode cL_law 732 = .ok (.aload_n 0, 1) := by decide +kernel
theorem dL_law_733 : decode cL_law 733 = .ok (.iload 4, 2) := by decide +kernel
theorem dL_law_735 : decode cL_law 735 = .ok (.iconst 1, 1) := by decide +kernel
theorem dL_law_736 : decode cL_law 736 = .ok (.iadd, 1) := by decide +kernel
theorem dL_law_737 : decode cL_law 737 = .ok (.iaload, 1) := by decide +kernel
theorem dL_law_738 : decode cL_law 738 = .ok (.invokevirtual 89, 3) := by decide +kernel
theorem dL_law_741 : decode cL_law 741 = .ok (.if_icmp .eq 1059, 3) := by decide +kernel
theorem dL_law_746 : decode cL_law 746 = .ok (.aload_n 1, 1) := by decide +kernel
theorem dL_law_747 : decode cL_law 747 = .ok (.aload_n 0, 1) := by decide +kernel
theorem dL_law_748 : decode cL_law 748 = .ok (.iload 4, 2) := by decide +kernel
theorem dL_law_750 : decode cL_law 750 = .ok (.iconst 1, 1) := by decide +kernel
theorem dL_law_751 : decode cL_law 751 = .ok (.iadd, 1) := by decide +kernel
theorem dL_law_752 : decode cL_law 752 = .ok (.iaload, 1) := by decide +kernel
theorem dL_law_753 : decode cL_law 753 = .ok (.aload_n 0, 1) := by decide +kernel
theorem dL_law_754 : decode cL_law 754 = .ok (.iload 4, 2) := by decide +kernel
theorem dL_law_756 : decode cL_law 756 = .ok (.iconst 2, 1) := by decide +kernel
theorem dL_law_757 : decode cL_law 757 = .ok (.iadd, 1) := by decide +kernel
theorem dL_law_758 : decode cL_law 758 = .ok (.iaload, 1) := by decide +kernel
theorem dL_law_759 : decode cL_law 759 = .ok (.aload_n 0, 1) := by decide +kernel
theorem dL_law_760 : decode cL_law 760 = .ok (.iload 4, 2) := by decide +kernel
theorem dL_law_762 : decode cL_law 762 = .ok (.iconst 3, 1) := by decide +kernel
theorem dL_law_763 : decode cL_law 763 = .ok (.iadd, 1) := by decide +kernel
theorem dL_law_764 : decode cL_law 764 = .ok (.iaload, 1) := by decide +kernel
theorem dL_law_765 : decode cL_law 765 = .ok (.invokevirtual 90, 3) := by decide +kernel
theorem dL_law_768 : decode cL_law 768 = .ok (.aload_n 2, 1) := by decide +kernel
theorem dL_law_769 : decode cL_law 769 = .ok (.aload_n 0, 1) := by decide +kernel
theorem dL_law_770 : decode cL_law 770 = .ok (.iload 4, 2) := by decide +kernel
theorem dL_law_772 : decode cL_law 772 = .ok (.iconst 1, 1) := by decide +kernel
theorem dL_law_773 : decode cL_law 773 = .ok (.iadd, 1) := by decide +kernel
theorem dL_law_774 : decode cL_law 774 = .ok (.iaload, 1) := by decide +kernel
theorem dL_law_775 : decode cL_law 775 = .ok (.aload_n 0, 1) := by decide +kernel
theorem dL_law_776 : decode cL_law 776 = .ok (.iload 4, 2) := by decide +kernel
theorem dL_law_778 : decode cL_law 778 = .ok (.iconst 2, 1) := by decide +kernel
theorem dL_law_779 : decode cL_law 779 = .ok (.iadd, 1) := by decide +kernel
theorem dL_law_780 : decode cL_law 780 = .ok (.iaload, 1) := by decide +kernel
theorem dL_law_781 : decode cL_law 781 = .ok (.aload_n 0, 1) := by decide +kernel
theorem dL_law_782 : decode cL_law 782 = .ok (.iload 4, 2) := by decide +kernel
theorem dL_law_784 : decode cL_law 784 = .ok (.iconst 3, 1) := by decide +kernel
theorem dL_law_785 : decode cL_law 785 = .ok (.iadd, 1) := by decide +kernel
theorem dL_law_786 : decode cL_law 786 = .ok (.iaload, 1) := by decide +kernel
theorem dL_law_787 : decode cL_law 787 = .ok (.invokevirtual 93, 3) := by decide +kernel
theorem dL_law_790 : decode cL_law 790 = .ok (.if_icmp .eq 1010, 3) := by decide +kernel
theorem dL_law_795 : decode cL_law 795 = .ok (.aload_n 1, 1) := by decide +kernel
theorem dL_law_796 : decode cL_law 796 = .ok (.aload_n 0, 1) := by decide +kernel
theorem dL_law_797 : decode cL_law 797 = .ok (.iload 4, 2) := by decide +kernel
theorem dL_law_799 : decode cL_law 799 = .ok (.iconst 1, 1) := by decide +kernel
theorem dL_law_800 : decode cL_law 800 = .ok (.iadd, 1) := by decide +kernel
theorem dL_law_801 : decode cL_law 801 = .ok (.iaload, 1) := by decide +kernel
theorem dL_law_802 : decode cL_law 802 = .ok (.invokevirtual 94, 3) := by decide +kernel
theorem dL_law_805 : decode cL_law 805 = .ok (.aload_n 2, 1) := by decide +kernel
theorem dL_law_806 : decode cL_law 806 = .ok (.aload_n 0, 1) := by decide +kernel
theorem dL_law_807 : decode cL_law 807 = .ok (.iload 4, 2) := by decide +kernel
theorem dL_law_809 : decode cL_law 809 = .ok (.iconst 1, 1) := by decide +kernel
theorem dL_law_810 : decode cL_law 810 = .ok (.iadd, 1) := by decide +kernel
theorem dL_law_811 : decode cL_law 811 = .ok (.iaload, 1) := by decide +kernel
theorem dL_law_812 : decode cL_law 812 = .ok (.invokevirtual 97, 3) := by decide +kernel
theorem dL_law_815 : decode cL_law 815 = .ok (.if_icmp .eq 985, 3) := by decide +kernel
theorem dL_law_820 : decode cL_law 820 = .ok (.aload_n 1, 1) := by decide +kernel
theorem dL_law_821 : decode cL_law 821 = .ok (.aload_n 0, 1) := by decide +kernel
theorem dL_law_822 : decode cL_law 822 = .ok (.iload 4, 2) := by decide +kernel
theorem dL_law_824 : decode cL_law 824 = .ok (.iconst 1, 1) := by decide +kernel
theorem dL_law_825 : decode cL_law 825 = .ok (.iadd, 1) := by decide +kernel
theorem dL_law_826 : decode cL_law 826 = .ok (.iaload, 1) := by decide +kernel
theorem dL_law_827 : decode cL_law 827 = .ok (.aload_n 0, 1) := by decide +kernel
theorem dL_law_828 : decode cL_law 828 = .ok (.iload 4, 2) := by decide +kernel
theorem dL_law_830 : decode cL_law 830 = .ok (.iconst 2, 1) := by decide +kernel
theorem dL_law_831 : decode cL_law 831 = .ok (.iadd, 1) := by decide +kernel
theorem dL_law_832 : decode cL_law 832 = .ok (.iaload, 1) := by decide +kernel
theorem dL_law_833 : decode cL_law 833 = .ok (.invokevirtual 98, 3) := by decide +kernel
theorem dL_law_836 : decode cL_law 836 = .ok (.aload_n 2, 1) := by decide +kernel
theorem dL_law_837 : decode cL_law 837 = .ok (.aload_n 0, 1) := by decide +kernel
theorem dL_law_838 : decode cL_law 838 = .ok (.iload 4, 2) := by decide +kernel
theorem dL_law_840 : decode cL_law 840 = .ok (.iconst 1, 1) := by decide +kernel
theorem dL_law_841 : decode cL_law 841 = .ok (.iadd, 1) := by decide +kernel
theorem dL_law_842 : decode cL_law 842 = .ok (.iaload, 1) := by decide +kernel
theorem dL_law_843 : decode cL_law 843 = .ok (.aload_n 0, 1) := by decide +kernel
theorem dL_law_844 : decode cL_law 844 = .ok (.iload 4, 2) := by decide +kernel
theorem dL_law_846 : decode cL_law 846 = .ok (.iconst 2, 1) := by decide +kernel
theorem dL_law_847 : decode cL_law 847 = .ok (.iadd, 1) := by decide +kernel
theorem dL_law_848 : decode cL_law 848 = .ok (.iaload, 1) := by decide +kernel
theorem dL_law_849 : decode cL_law 849 = .ok (.invokevirtual 101, 3) := by decide +kernel
theorem dL_law_852 : decode cL_law 852 = .ok (.if_icmp .eq 948, 3) := by decide +kernel
theorem dL_law_857 : decode cL_law 857 = .ok (.aload_n 1, 1) := by decide +kernel
theorem dL_law_858 : decode cL_law 858 = .ok (.aload_n 0, 1) := by decide +kernel
theorem dL_law_859 : decode cL_law 859 = .ok (.iload 4, 2) := by decide +kernel
theorem dL_law_861 : decode cL_law 861 = .ok (.iconst 1, 1) := by decide +kernel
theorem dL_law_862 : decode cL_law 862 = .ok (.iadd, 1) := by decide +kernel
theorem dL_law_863 : decode cL_law 863 = .ok (.iaload, 1) := by decide +kernel
theorem dL_law_864 : decode cL_law 864 = .ok (.aload_n 0, 1) := by decide +kernel
theorem dL_law_865 : decode cL_law 865 = .ok (.iload 4, 2) := by decide +kernel
theorem dL_law_867 : decode cL_law 867 = .ok (.iconst 2, 1) := by decide +kernel
theorem dL_law_868 : decode cL_law 868 = .ok (.iadd, 1) := by decide +kernel
theorem dL_law_869 : decode cL_law 869 = .ok (.iaload, 1) := by decide +kernel
theorem dL_law_870 : decode cL_law 870 = .ok (.aload_n 0, 1) := by decide +kernel
theorem dL_law_871 : decode cL_law 871 = .ok (.iload 4, 2) := by decide +kernel
theorem dL_law_873 : decode cL_law 873 = .ok (.iconst 3, 1) := by decide +kernel
theorem dL_law_874 : decode cL_law 874 = .ok (.iadd, 1) := by decide +kernel
theorem dL_law_875 : decode cL_law 875 = .ok (.iaload, 1) := by decide +kernel
theorem dL_law_876 : decode cL_law 876 = .ok (.aload_n 0, 1) := by decide +kernel
theorem dL_law_877 : decode cL_law 877 = .ok (.iload 4, 2) := by decide +kernel
theorem dL_law_879 : decode cL_law 879 = .ok (.iconst 4, 1) := by decide +kernel
theorem dL_law_880 : decode cL_law 880 = .ok (.iadd, 1) := by decide +kernel
theorem dL_law_881 : decode cL_law 881 = .ok (.iaload, 1) := by decide +kernel
theorem dL_law_882 : decode cL_law 882 = .ok (.invokevirtual 102, 3) := by decide +kernel
theorem dL_law_885 : decode cL_law 885 = .ok (.aload_n 2, 1) := by decide +kernel
theorem dL_law_886 : decode cL_law 886 = .ok (.aload_n 0, 1) := by decide +kernel
theorem dL_law_887 : decode cL_law 887 = .ok (.iload 4, 2) := by decide +kernel
theorem dL_law_889 : decode cL_law 889 = .ok (.iconst 1, 1) := by decide +kernel
theorem dL_law_890 : decode cL_law 890 = .ok (.iadd, 1) := by decide +kernel
theorem dL_law_891 : decode cL_law 891 = .ok (.iaload, 1) := by decide +kernel
theorem dL_law_892 : decode cL_law 892 = .ok (.aload_n 0, 1) := by decide +kernel
theorem dL_law_893 : decode cL_law 893 = .ok (.iload 4, 2) := by decide +kernel
theorem dL_law_895 : decode cL_law 895 = .ok (.iconst 2, 1) := by decide +kernel
theorem dL_law_896 : decode cL_law 896 = .ok (.iadd, 1) := by decide +kernel
theorem dL_law_897 : decode cL_law 897 = .ok (.iaload, 1) := by decide +kernel
theorem dL_law_898 : decode cL_law 898 = .ok (.aload_n 0, 1) := by decide +kernel
theorem dL_law_899 : decode cL_law 899 = .ok (.iload 4, 2) := by decide +kernel
theorem dL_law_901 : decode cL_law 901 = .ok (.iconst 3, 1) := by decide +kernel
theorem dL_law_902 : decode cL_law 902 = .ok (.iadd, 1) := by decide +kernel
theorem dL_law_903 : decode cL_law 903 = .ok (.iaload, 1) := by decide +kernel
theorem dL_law_904 : decode cL_law 904 = .ok (.aload_n 0, 1) := by decide +kernel
theorem dL_law_905 : decode cL_law 905 = .ok (.iload 4, 2) := by decide +kernel
theorem dL_law_907 : decode cL_law 907 = .ok (.iconst 4, 1) := by decide +kernel
theorem dL_law_908 : decode cL_law 908 = .ok (.iadd, 1) := by decide +kernel
theorem dL_law_909 : decode cL_law 909 = .ok (.iaload, 1) := by decide +kernel
theorem dL_law_910 : decode cL_law 910 = .ok (.invokevirtual 106, 3) := by decide +kernel
theorem dL_law_913 : decode cL_law 913 = .ok (.if_icmp .eq 887, 3) := by decide +kernel
theorem dL_law_918 : decode cL_law 918 = .ok (.aload_n 1, 1) := by decide +kernel
theorem dL_law_919 : decode cL_law 919 = .ok (.aload_n 0, 1) := by decide +kernel
theorem dL_law_920 : decode cL_law 920 = .ok (.iload 4, 2) := by decide +kernel
theorem dL_law_922 : decode cL_law 922 = .ok (.iconst 1, 1) := by decide +kernel
theorem dL_law_923 : decode cL_law 923 = .ok (.iadd, 1) := by decide +kernel
theorem dL_law_924 : decode cL_law 924 = .ok (.iaload, 1) := by decide +kernel
theorem dL_law_925 : decode cL_law 925 = .ok (.aload_n 0, 1) := by decide +kernel
theorem dL_law_926 : decode cL_law 926 = .ok (.iload 4, 2) := by decide +kernel
theorem dL_law_928 : decode cL_law 928 = .ok (.iconst 2, 1) := by decide +kernel
theorem dL_law_929 : decode cL_law 929 = .ok (.iadd, 1) := by decide +kernel
theorem dL_law_930 : decode cL_law 930 = .ok (.iaload, 1) := by decide +kernel
theorem dL_law_931 : decode cL_law 931 = .ok (.invokevirtual 107, 3) := by decide +kernel
theorem dL_law_934 : decode cL_law 934 = .ok (.aload_n 2, 1) := by decide +kernel
theorem dL_law_935 : decode cL_law 935 = .ok (.aload_n 0, 1) := by decide +kernel
theorem dL_law_936 : decode cL_law 936 = .ok (.iload 4, 2) := by decide +kernel
theorem dL_law_938 : decode cL_law 938 = .ok (.iconst 1, 1) := by decide +kernel
theorem dL_law_939 : decode cL_law 939 = .ok (.iadd, 1) := by decide +kernel
theorem dL_law_940 : decode cL_law 940 = .ok (.iaload, 1) := by decide +kernel
theorem dL_law_941 : decode cL_law 941 = .ok (.aload_n 0, 1) := by decide +kernel
theorem dL_law_942 : decode cL_law 942 = .ok (.iload 4, 2) := by decide +kernel
theorem dL_law_944 : decode cL_law 944 = .ok (.iconst 2, 1) := by decide +kernel
theorem dL_law_945 : decode cL_law 945 = .ok (.iadd, 1) := by decide +kernel
theorem dL_law_946 : decode cL_law 946 = .ok (.iaload, 1) := by decide +kernel
theorem dL_law_947 : decode cL_law 947 = .ok (.invokevirtual 110, 3) := by decide +kernel
theorem dL_law_950 : decode cL_law 950 = .ok (.if_icmp .eq 850, 3) := by decide +kernel
theorem dL_law_955 : decode cL_law 955 = .ok (.aload_n 1, 1) := by decide +kernel
theorem dL_law_956 : decode cL_law 956 = .ok (.aload_n 0, 1) := by decide +kernel
theorem dL_law_957 : decode cL_law 957 = .ok (.iload 4, 2) := by decide +kernel
theorem dL_law_959 : decode cL_law 959 = .ok (.iconst 1, 1) := by decide +kernel
theorem dL_law_960 : decode cL_law 960 = .ok (.iadd, 1) := by decide +kernel
theorem dL_law_961 : decode cL_law 961 = .ok (.iaload, 1) := by decide +kernel
theorem dL_law_962 : decode cL_law 962 = .ok (.aload_n 0, 1) := by decide +kernel
theorem dL_law_963 : decode cL_law 963 = .ok (.iload 4, 2) := by decide +kernel
theorem dL_law_965 : decode cL_law 965 = .ok (.iconst 2, 1) := by decide +kernel
theorem dL_law_966 : decode cL_law 966 = .ok (.iadd, 1) := by decide +kernel
theorem dL_law_967 : decode cL_law 967 = .ok (.iaload, 1) := by decide +kernel
theorem dL_law_968 : decode cL_law 968 = .ok (.aload_n 0, 1) := by decide +kernel
theorem dL_law_969 : decode cL_law 969 = .ok (.iload 4, 2) := by decide +kernel
theorem dL_law_971 : decode cL_law 971 = .ok (.iconst 3, 1) := by decide +kernel
theorem dL_law_972 : decode cL_law 972 = .ok (.iadd, 1) := by decide +kernel
theorem dL_law_973 : decode cL_law 973 = .ok (.iaload, 1) := by decide +kernel
theorem dL_law_974 : decode cL_law 974 = .ok (.invokevirtual 111, 3) := by decide +kernel
theorem dL_law_977 : decode cL_law 977 = .ok (.aload_n 2, 1) := by decide +kernel
theorem dL_law_978 : decode cL_law 978 = .ok (.aload_n 0, 1) := by decide +kernel
theorem dL_law_979 : decode cL_law 979 = .ok (.iload 4, 2) := by decide +kernel
theorem dL_law_981 : decode cL_law 981 = .ok (.iconst 1, 1) := by decide +kernel
theorem dL_law_982 : decode cL_law 982 = .ok (.iadd, 1) := by decide +kernel
theorem dL_law_983 : decode cL_law 983 = .ok (.iaload, 1) := by decide +kernel
theorem dL_law_984 : decode cL_law 984 = .ok (.aload_n 0, 1) := by decide +kernel
theorem dL_law_985 : decode cL_law 985 = .ok (.iload 4, 2) := by decide +kernel
theorem dL_law_987 : decode cL_law 987 = .ok (.iconst 2, 1) := by decide +kernel
theorem dL_law_988 : decode cL_law 988 = .ok (.iadd, 1) := by decide +kernel
theorem dL_law_989 : decode cL_law 989 = .ok (.iaload, 1) := by decide +kernel
theorem dL_law_990 : decode cL_law 990 = .ok (.aload_n 0, 1) := by decide +kernel
theorem dL_law_991 : decode cL_law 991 = .ok (.iload 4, 2) := by decide +kernel
theorem dL_law_993 : decode cL_law 993 = .ok (.iconst 3, 1) := by decide +kernel
theorem dL_law_994 : decode cL_law 994 = .ok (.iadd, 1) := by decide +kernel
theorem dL_law_995 : decode cL_law 995 = .ok (.iaload, 1) := by decide +kernel
theorem dL_law_996 : decode cL_law 996 = .ok (.invokevirtual 114, 3) := by decide +kernel
theorem dL_law_999 : decode cL_law 999 = .ok (.if_icmp .eq 801, 3) := by decide +kernel
theorem dL_law_1004 : decode cL_law 1004 = .ok (.aload_n 1, 1) := by decide +kernel
theorem dL_law_1005 : decode cL_law 1005 = .ok (.invokevirtual 115, 3) := by decide +kernel
theorem dL_law_1008 : decode cL_law 1008 = .ok (.aload_n 2, 1) := by decide +kernel
theorem dL_law_1009 : decode cL_law 1009 = .ok (.invokevirtual 119, 3) := by decide +kernel
theorem dL_law_1012 : decode cL_law 1012 = .ok (.if_icmp .eq 788, 3) := by decide +kernel
theorem dL_law_1017 : decode cL_law 1017 = .ok (.aload_n 1, 1) := by decide +kernel
theorem dL_law_1018 : decode cL_law 1018 = .ok (.aload_n 0, 1) := by decide +kernel
theorem dL_law_1019 : decode cL_law 1019 = .ok (.iload 4, 2) := by decide +kernel
theorem dL_law_1021 : decode cL_law 1021 = .ok (.iconst 1, 1) := by decide +kernel
theorem dL_law_1022 : decode cL_law 1022 = .ok (.iadd, 1) := by decide +kernel
theorem dL_law_1023 : decode cL_law 1023 = .ok (.iaload, 1) := by decide +kernel
theorem dL_law_1024 : decode cL_law 1024 = .ok (.aload_n 0, 1) := by decide +kernel
theorem dL_law_1025 : decode cL_law 1025 = .ok (.iload 4, 2) := by decide +kernel
theorem dL_law_1027 : decode cL_law 1027 = .ok (.iconst 2, 1) := by decide +kernel
theorem dL_law_1028 : decode cL_law 1028 = .ok (.iadd, 1) := by decide +kernel
theorem dL_law_1029 : decode cL_law 1029 = .ok (.iaload, 1) := by decide +kernel
theorem dL_law_1030 : decode cL_law 1030 = .ok (.aload_n 0, 1) := by decide +kernel
theorem dL_law_1031 : decode cL_law 1031 = .ok (.iload 4, 2) := by decide +kernel
theorem dL_law_1033 : decode cL_law 1033 = .ok (.iconst 3, 1) := by decide +kernel
theorem dL_law_1034 : decode cL_law 1034 = .ok (.iadd, 1) := by decide +kernel
theorem dL_law_1035 : decode cL_law 1035 = .ok (.iaload, 1) := by decide +kernel
theorem dL_law_1036 : decode cL_law 1036 = .ok (.aload_n 3, 1) := by decide +kernel
theorem dL_law_1037 : decode cL_law 1037 = .ok (.invokestatic 120, 3) := by decide +kernel
theorem dL_law_1040 : decode cL_law 1040 = .ok (.istore 5, 2) := by decide +kernel
theorem dL_law_1042 : decode cL_law 1042 = .ok (.aload_n 2, 1) := by decide +kernel
theorem dL_law_1043 : decode cL_law 1043 = .ok (.aload_n 0, 1) := by decide +kernel
theorem dL_law_1044 : decode cL_law 1044 = .ok (.iload 4, 2) := by decide +kernel
theorem dL_law_1046 : decode cL_law 1046 = .ok (.iconst 1, 1) := by decide +kernel
theorem dL_law_1047 : decode cL_law 1047 = .ok (.iadd, 1) := by decide +kernel
theorem dL_law_1048 : decode cL_law 1048 = .ok (.iaload, 1) := by decide +kernel
theorem dL_law_1049 : decode cL_law 1049 = .ok (.aload_n 0, 1) := by decide +kernel
theorem dL_law_1050 : decode cL_law 1050 = .ok (.iload 4, 2) := by decide +kernel
theorem dL_law_1052 : decode cL_law 1052 = .ok (.iconst 2, 1) := by decide +kernel
theorem dL_law_1053 : decode cL_law 1053 = .ok (.iadd, 1) := by decide +kernel
theorem dL_law_1054 : decode cL_law 1054 = .ok (.iaload, 1) := by decide +kernel
theorem dL_law_1055 : decode cL_law 1055 = .ok (.aload_n 0, 1) := by decide +kernel
theorem dL_law_1056 : decode cL_law 1056 = .ok (.iload 4, 2) := by decide +kernel
theorem dL_law_1058 : decode cL_law 1058 = .ok (.iconst 3, 1) := by decide +kernel
theorem dL_law_1059 : decode cL_law 1059 = .ok (.iadd, 1) := by decide +kernel
theorem dL_law_1060 : decode cL_law 1060 = .ok (.iaload, 1) := by decide +kernel
theorem dL_law_1061 : decode cL_law 1061 = .ok (.invokevirtual 125, 3) := by decide +kernel
theorem dL_law_1064 : decode cL_law 1064 = .ok (.istore 6, 2) := by decide +kernel
theorem dL_law_1066 : decode cL_law 1066 = .ok (.aload_n 2, 1) := by decide +kernel
theorem dL_law_1067 : decode cL_law 1067 = .ok (.invokevirtual 126, 3) := by decide +kernel
theorem dL_law_1070 : decode cL_law 1070 = .ok (.iload 5, 2) := by decide +kernel
theorem dL_law_1072 : decode cL_law 1072 = .ok (.if_icmp .eq 5, 3) := by decide +kernel
theorem dL_law_1077 : decode cL_law 1077 = .ok (.iload 5, 2) := by decide +kernel
theorem dL_law_1079 : decode cL_law 1079 = .ok (.ifCond .ne 15, 3) := by decide +kernel
theorem dL_law_1082 : decode cL_law 1082 = .ok (.aload_n 3, 1) := by decide +kernel
theorem dL_law_1083 : decode cL_law 1083 = .ok (.iconst 0, 1) := by decide +kernel
theorem dL_law_1084 : decode cL_law 1084 = .ok (.laload, 1) := by decide +kernel
theorem dL_law_1085 : decode cL_law 1085 = .ok (.iload 6, 2) := by decide +kernel
theorem dL_law_1087 : decode cL_law 1087 = .ok (.i2l, 1) := by decide +kernel
theorem dL_law_1088 : decode cL_law 1088 = .ok (.lcmp, 1) := by decide +kernel
theorem dL_law_1089 : decode cL_law 1089 = .ok (.ifCond .eq 5, 3) := by decide +kernel
theorem dL_law_1094 : decode cL_law 1094 = .ok (.goto 706, 3) := by decide +kernel
theorem dL_law_1097 : decode cL_law 1097 = .ok (.aload_n 1, 1) := by decide +kernel
theorem dL_law_1098 : decode cL_law 1098 = .ok (.aload_n 0, 1) := by decide +kernel
theorem dL_law_1099 : decode cL_law 1099 = .ok (.iload 4, 2) := by decide +kernel
theorem dL_law_1101 : decode cL_law 1101 = .ok (.iconst 1, 1) := by decide +kernel
theorem dL_law_1102 : decode cL_law 1102 = .ok (.iadd, 1) := by decide +kernel
theorem dL_law_1103 : decode cL_law 1103 = .ok (.iaload, 1) := by decide +kernel
theorem dL_law_1104 : decode cL_law 1104 = .ok (.aload_n 0, 1) := by decide +kernel
theorem dL_law_1105 : decode cL_law 1105 = .ok (.iload 4, 2) := by decide +kernel
theorem dL_law_1107 : decode cL_law 1107 = .ok (.iconst 2, 1) := by decide +kernel
theorem dL_law_1108 : decode cL_law 1108 = .ok (.iadd, 1) := by decide +kernel
theorem dL_law_1109 : decode cL_law 1109 = .ok (.iaload, 1) := by decide +kernel
theorem dL_law_1110 : decode cL_law 1110 = .ok (.aload_n 3, 1) := by decide +kernel
theorem dL_law_1111 : decode cL_law 1111 = .ok (.invokestatic 129, 3) := by decide +kernel
theorem dL_law_1114 : decode cL_law 1114 = .ok (.istore 5, 2) := by decide +kernel
theorem dL_law_1116 : decode cL_law 1116 = .ok (.aload_n 2, 1) := by decide +kernel
theorem dL_law_1117 : decode cL_law 1117 = .ok (.aload_n 0, 1) := by decide +kernel
theorem dL_law_1118 : decode cL_law 1118 = .ok (.iload 4, 2) := by decide +kernel
theorem dL_law_1120 : decode cL_law 1120 = .ok (.iconst 1, 1) := by decide +kernel
theorem dL_law_1121 : decode cL_law 1121 = .ok (.iadd, 1) := by decide +kernel
theorem dL_law_1122 : decode cL_law 1122 = .ok (.iaload, 1) := by decide +kernel
theorem dL_law_1123 : decode cL_law 1123 = .ok (.aload_n 0, 1) := by decide +kernel
theorem dL_law_1124 : decode cL_law 1124 = .ok (.iload 4, 2) := by decide +kernel
theorem dL_law_1126 : decode cL_law 1126 = .ok (.iconst 2, 1) := by decide +kernel
theorem dL_law_1127 : decode cL_law 1127 = .ok (.iadd, 1) := by decide +kernel
theorem dL_law_1128 : decode cL_law 1128 = .ok (.iaload, 1) := by decide +kernel
theorem dL_law_1129 : decode cL_law 1129 = .ok (.invokevirtual 132, 3) := by decide +kernel
theorem dL_law_1132 : decode cL_law 1132 = .ok (.istore 6, 2) := by decide +kernel
theorem dL_law_1134 : decode cL_law 1134 = .ok (.aload_n 2, 1) := by decide +kernel
theorem dL_law_1135 : decode cL_law 1135 = .ok (.invokevirtual 126, 3) := by decide +kernel
theorem dL_law_1138 : decode cL_law 1138 = .ok (.iload 5, 2) := by decide +kernel
theorem dL_law_1140 : decode cL_law 1140 = .ok (.if_icmp .eq 5, 3) := by decide +kernel
theorem dL_law_1145 : decode cL_law 1145 = .ok (.iload 5, 2) := by decide +kernel
theorem dL_law_1147 : decode cL_law 1147 = .ok (.ifCond .ne 15, 3) := by decide +kernel
theorem dL_law_1150 : decode cL_law 1150 = .ok (.aload_n 3, 1) := by decide +kernel
theorem dL_law_1151 : decode cL_law 1151 = .ok (.iconst 0, 1) := by decide +kernel
theorem dL_law_1152 : decode cL_law 1152 = .ok (.laload, 1) := by decide +kernel
theorem dL_law_1153 : decode cL_law 1153 = .ok (.iload 6, 2) := by decide +kernel
theorem dL_law_1155 : decode cL_law 1155 = .ok (.i2l, 1) := by decide +kernel
theorem dL_law_1156 : decode cL_law 1156 = .ok (.lcmp, 1) := by decide +kernel
theorem dL_law_1157 : decode cL_law 1157 = .ok (.ifCond .eq 5, 3) := by decide +kernel
theorem dL_law_1162 : decode cL_law 1162 = .ok (.goto 638, 3) := by decide +kernel
theorem dL_law_1165 : decode cL_law 1165 = .ok (.aload_n 1, 1) := by decide +kernel
theorem dL_law_1166 : decode cL_law 1166 = .ok (.aload_n 0, 1) := by decide +kernel
theorem dL_law_1167 : decode cL_law 1167 = .ok (.iload 4, 2) := by decide +kernel
theorem dL_law_1169 : decode cL_law 1169 = .ok (.iconst 1, 1) := by decide +kernel
theorem dL_law_1170 : decode cL_law 1170 = .ok (.iadd, 1) := by decide +kernel
theorem dL_law_1171 : decode cL_law 1171 = .ok (.iaload, 1) := by decide +kernel
theorem dL_law_1172 : decode cL_law 1172 = .ok (.aload_n 0, 1) := by decide +kernel
theorem dL_law_1173 : decode cL_law 1173 = .ok (.iload 4, 2) := by decide +kernel
theorem dL_law_1175 : decode cL_law 1175 = .ok (.iconst 2, 1) := by decide +kernel
theorem dL_law_1176 : decode cL_law 1176 = .ok (.iadd, 1) := by decide +kernel
theorem dL_law_1177 : decode cL_law 1177 = .ok (.iaload, 1) := by decide +kernel
theorem dL_law_1178 : decode cL_law 1178 = .ok (.invokevirtual 133, 3) := by decide +kernel
theorem dL_law_1181 : decode cL_law 1181 = .ok (.aload_n 2, 1) := by decide +kernel
theorem dL_law_1182 : decode cL_law 1182 = .ok (.aload_n 0, 1) := by decide +kernel
theorem dL_law_1183 : decode cL_law 1183 = .ok (.iload 4, 2) := by decide +kernel
theorem dL_law_1185 : decode cL_law 1185 = .ok (.iconst 1, 1) := by decide +kernel
theorem dL_law_1186 : decode cL_law 1186 = .ok (.iadd, 1) := by decide +kernel
theorem dL_law_1187 : decode cL_law 1187 = .ok (.iaload, 1) := by decide +kernel
theorem dL_law_1188 : decode cL_law 1188 = .ok (.aload_n 0, 1) := by decide +kernel
theorem dL_law_1189 : decode cL_law 1189 = .ok (.iload 4, 2) := by decide +kernel
theorem dL_law_1191 : decode cL_law 1191 = .ok (.iconst 2, 1) := by decide +kernel
theorem dL_law_1192 : decode cL_law 1192 = .ok (.iadd, 1) := by decide +kernel
theorem dL_law_1193 : decode cL_law 1193 = .ok (.iaload, 1) := by decide +kernel
theorem dL_law_1194 : decode cL_law 1194 = .ok (.invokevirtual 136, 3) := by decide +kernel
theorem dL_law_1197 : decode cL_law 1197 = .ok (.if_icmp .eq 603, 3) := by decide +kernel
theorem dL_law_1202 : decode cL_law 1202 = .ok (.aload_n 1, 1) := by decide +kernel
theorem dL_law_1203 : decode cL_law 1203 = .ok (.aload_n 0, 1) := by decide +kernel
theorem dL_law_1204 : decode cL_law 1204 = .ok (.iload 4, 2) := by decide +kernel
theorem dL_law_1206 : decode cL_law 1206 = .ok (.iconst 1, 1) := by decide +kernel
theorem dL_law_1207 : decode cL_law 1207 = .ok (.iadd, 1) := by decide +kernel
theorem dL_law_1208 : decode cL_law 1208 = .ok (.iaload, 1) := by decide +kernel
theorem dL_law_1209 : decode cL_law 1209 = .ok (.invokevirtual 137, 3) := by decide +kernel
theorem dL_law_1212 : decode cL_law 1212 = .ok (.aload_n 2, 1) := by decide +kernel
theorem dL_law_1213 : decode cL_law 1213 = .ok (.aload_n 0, 1) := by decide +kernel
theorem dL_law_1214 : decode cL_law 1214 = .ok (.iload 4, 2) := by decide +kernel
theorem dL_law_1216 : decode cL_law 1216 = .ok (.iconst 1, 1) := by decide +kernel
theorem dL_law_1217 : decode cL_law 1217 = .ok (.iadd, 1) := by decide +kernel
theorem dL_law_1218 : decode cL_law 1218 = .ok (.iaload, 1) := by decide +kernel
theorem dL_law_1219 : decode cL_law 1219 = .ok (.invokevirtual 140, 3) := by decide +kernel
theorem dL_law_1222 : decode cL_law 1222 = .ok (.if_icmp .eq 578, 3) := by decide +kernel
theorem dL_law_1227 : decode cL_law 1227 = .ok (.aload_n 1, 1) := by decide +kernel
theorem dL_law_1228 : decode cL_law 1228 = .ok (.aload_n 0, 1) := by decide +kernel
theorem dL_law_1229 : decode cL_law 1229 = .ok (.iload 4, 2) := by decide +kernel
theorem dL_law_1231 : decode cL_law 1231 = .ok (.iconst 1, 1) := by decide +kernel
theorem dL_law_1232 : decode cL_law 1232 = .ok (.iadd, 1) := by decide +kernel
theorem dL_law_1233 : decode cL_law 1233 = .ok (.iaload, 1) := by decide +kernel
theorem dL_law_1234 : decode cL_law 1234 = .ok (.aload_n 0, 1) := by decide +kernel
theorem dL_law_1235 : decode cL_law 1235 = .ok (.iload 4, 2) := by decide +kernel
theorem dL_law_1237 : decode cL_law 1237 = .ok (.iconst 2, 1) := by decide +kernel
theorem dL_law_1238 : decode cL_law 1238 = .ok (.iadd, 1) := by decide +kernel
theorem dL_law_1239 : decode cL_law 1239 = .ok (.iaload, 1) := by decide +kernel
theorem dL_law_1240 : decode cL_law 1240 = .ok (.invokevirtual 141, 3) := by decide +kernel
theorem dL_law_1243 : decode cL_law 1243 = .ok (.aload_n 2, 1) := by decide +kernel
theorem dL_law_1244 : decode cL_law 1244 = .ok (.aload_n 0, 1) := by decide +kernel
theorem dL_law_1245 : decode cL_law 1245 = .ok (.iload 4, 2) := by decide +kernel
theorem dL_law_1247 : decode cL_law 1247 = .ok (.iconst 1, 1) := by decide +kernel
theorem dL_law_1248 : decode cL_law 1248 = .ok (.iadd, 1) := by decide +kernel
theorem dL_law_1249 : decode cL_law 1249 = .ok (.iaload, 1) := by decide +kernel
theorem dL_law_1250 : decode cL_law 1250 = .ok (.aload_n 0, 1) := by decide +kernel
theorem dL_law_1251 : decode cL_law 1251 = .ok (.iload 4, 2) := by decide +kernel
theorem dL_law_1253 : decode cL_law 1253 = .ok (.iconst 2, 1) := by decide +kernel
theorem dL_law_1254 : decode cL_law 1254 = .ok (.iadd, 1) := by decide +kernel
theorem dL_law_1255 : decode cL_law 1255 = .ok (.iaload, 1) := by decide +kernel
theorem dL_law_1256 : decode cL_law 1256 = .ok (.invokevirtual 144, 3) := by decide +kernel
theorem dL_law_1259 : decode cL_law 1259 = .ok (.if_icmp .eq 541, 3) := by decide +kernel
section CS
variable {p : Program} {l : Launch} {e : Env} {s : State} {m : MethodId} {below : List Frame} {meth : Method} {c : Code} {H : Heap} {cells slots : Nat} {Q : State → Prop}
variable {μ : Mm} {ls : Array Slot} {b L n : Nat} {xs : Nat → Int32} {D : va_G} {cyf : Nat → ClassId} {tb : Nat → Nat} {ks : List Nat} {g : Nat → Int64}
set_option maxHeartbeats 4000000 in
theorem la_jobs (C : LC p l s m c b L xs D cyf) (hn : 6 * n + 6 ≤ L) (hI : LI s D cyf tb ks μ g H) (hl : lv_has ls 8 (lcs s b (nI (6 * n)))) (hc : cells + 33 ≤ room_1.cells ∧ slots + 2800 ≤ room_1.slots)
    (kk : ∀ (tb : Nat → Nat) (ks : List Nat) (μ : Mm) (g : Nat → Int64) (H : Heap) (ls : Array Slot), LI s D cyf tb ks μ g H → lv_has ls 8 (lcs s b (nI (6 * n))) → W p l e room_1 s m #[.ref b] below meth c H [] (cells + 33) (slots + 2800) Q (F0 m 1800 ls [])) : W p l e room_1 s m #[.ref b] below meth c H [] cells slots Q (F0 m 721 ls []) := by
  obtain ⟨hG, hH, hK, hR⟩ := hI
  have X := C.cx hG
  have hx := X.1.1
  have hb := X.1.2.1
  obtain ⟨r, μ1, μ2, e1, e2, hR2⟩ := op_jobs (F := 1000) (Nat.le_refl _) hR (xs (6 * n + 1))
  have e1 : f_X9_jobs 1000 μ (xs (6 * n + 1)) = some (r, μ1) := e1
  have e2 : f_X10_jobs 1000 μ1 (xs (6 * n + 1)) = some (r, μ2) := e2
  have ke1 : KP μ μ1 := fun d => (fr_X9_jobs (by omega) (by omega) (by omega) (by omega) (by omega) (by omega) (by omega) (by omega) (by omega) (by omega) (by omega) (by omega) (by omega) (by omega) (by omega) (by omega) (by omega) e1).1
  have ke2 : KP μ1 μ2 := fun d => (fr_X10_jobs (by omega) (by omega) (by omega) (by omega) (by omega) (by omega) (by omega) (by omega) (by omega) (by omega) (by omega) (by omega) (by omega) (by omega) e2).1
  refine lv_aload_n hx hb dL_law_721 rfl (lv_at hl 3 rfl) ?_
  refine la_arg (n := n) (j := 1) C hH.2.2 (lv_at hl 4 rfl) (lv_at hl 0 rfl) hn rfl (by decide) dL_law_722 dL_law_723 dL_law_725 dL_law_726 dL_law_727 ?_
  refine la_V (k := 900) (i := 0) (As := [.int (xs (6 * n + 1))]) (rest := []) X hG hH (c_X9_jobs l _ (En_l9 D cyf s.heap.size (s.heap.size + 75) tb (exs ks)) e1) ml_L_86 kv_X9_jobs (la_x X hH) rfl rfl ⟨Nat.le_of_ble_eq_true rfl, Nat.le_of_ble_eq_true rfl⟩ ⟨by omega, by omega⟩ rfl rfl hl.1 (Nat.le_of_ble_eq_true rfl) dL_law_728 (st1 := [.int (r)]) rfl (fun H hH => ?_)
  refine lv_aload_n hx hb dL_law_731 rfl (lv_at hl 2 rfl) ?_
  refine la_arg (n := n) (j := 1) C hH.2.2 (lv_at hl 4 rfl) (lv_at hl 0 rfl) hn rfl (by decide) dL_law_732 dL_law_733 dL_law_735 dL_law_736 dL_law_737 ?_
  refine la_V (k := 1000) (i := 0) (As := [.int (xs (6 * n + 1))]) (rest := [.int (r)]) X hG hH (c_X10_jobs l _ (En_l10 D cyf s.heap.size (s.heap.size + 75) tb (exs ks)) e2) ml_L_89 kv_X10_jobs (la_m X hH) rfl rfl ⟨Nat.le_of_ble_eq_true rfl, Nat.le_of_ble_eq_true rfl⟩ ⟨by omega, by omega⟩ rfl rfl hl.1 (Nat.le_of_ble_eq_true rfl) dL_law_738 (st1 := [.int (r), .int (r)]) rfl (fun H hH => ?_)
  refine lv_icmp_eq (tgt := 1800) hx hb dL_law_741 rfl (fun _ => ?_) (fun h => absurd rfl h)
  exact W.widen (by omega) (by omega) (kk tb ks μ2 g H ls ⟨hG, hH, hK.mv (ke1.tr ke2), hR2⟩ hl)
set_option maxHeartbeats 4000000 in
theorem la_job (C : LC p l s m c b L xs D cyf) (hn : 6 * n + 6 ≤ L) (hI : LI s D cyf tb ks μ g H) (hl : lv_has ls 8 (lcs s b (nI (6 * n)))) (hc : cells + 33 ≤ room_1.cells ∧ slots + 2800 ≤ room_1.slots)
    (kk : ∀ (tb : Nat → Nat) (ks : List Nat) (μ : Mm) (g : Nat → Int64) (H : Heap) (ls : Array Slot), LI s D cyf tb ks μ g H → lv_has ls 8 (lcs s b (nI (6 * n))) → W p l e room_1 s m #[.ref b] below meth c H [] (cells + 33) (slots + 2800) Q (F0 m 1800 ls [])) : W p l e room_1 s m #[.ref b] below meth c H [] cells slots Q (F0 m 746 ls []) := by
  obtain ⟨hG, hH, hK, hR⟩ := hI
  have X := C.cx hG
  have hx := X.1.1
  have hb := X.1.2.1
  obtain ⟨r, μ1, μ2, e1, e2, hR2⟩ := op_job (F := 1000) (Nat.le_refl _) hR (xs (6 * n + 1)) (xs (6 * n + 2)) (xs (6 * n + 3))
  have e1 : f_X9_job 1000 μ (xs (6 * n + 1)) (xs (6 * n + 2)) (xs (6 * n + 3)) = some (r, μ1) := e1
  have e2 : f_X10_job 1000 μ1 (xs (6 * n + 1)) (xs (6 * n + 2)) (xs (6 * n + 3)) = some (r, μ2) := e2
  have ke1 : KP μ μ1 := fun d => (fr_X9_job (by omega) (by omega) (by omega) (by omega) (by omega) (by omega) (by omega) (by omega) (by omega) (by omega) (by omega) (by omega) (by omega) (by omega) (by omega) (by omega) (by omega) e1).1
  have ke2 : KP μ1 μ2 := fun d => (fr_X10_job (by omega) (by omega) (by omega) (by omega) (by omega) (by omega) (by omega) (by omega) (by omega) (by omega) (by omega) (by omega) (by omega) (by omega) e2).1
  refine lv_aload_n hx hb dL_law_746 rfl (lv_at hl 3 rfl) ?_
  refine la_arg (n := n) (j := 1) C hH.2.2 (lv_at hl 4 rfl) (lv_at hl 0 rfl) hn rfl (by decide) dL_law_747 dL_law_748 dL_law_750 dL_law_751 dL_law_752 ?_
  refine la_arg (n := n) (j := 2) C hH.2.2 (lv_at hl 4 rfl) (lv_at hl 0 rfl) hn rfl (by decide) dL_law_753 dL_law_754 dL_law_756 dL_law_757 dL_law_758 ?_
  refine la_arg (n := n) (j := 3) C hH.2.2 (lv_at hl 4 rfl) (lv_at hl 0 rfl) hn rfl (by decide) dL_law_759 dL_law_760 dL_law_762 dL_law_763 dL_law_764 ?_
  refine la_V (k := 900) (i := 0) (As := [.int (xs (6 * n + 1)), .int (xs (6 * n + 2)), .int (xs (6 * n + 3))]) (rest := []) X hG hH (c_X9_job l _ (En_l9 D cyf s.heap.size (s.heap.size + 75) tb (exs ks)) e1) ml_L_90 kv_X9_job (la_x X hH) rfl rfl ⟨Nat.le_of_ble_eq_true rfl, Nat.le_of_ble_eq_true rfl⟩ ⟨by omega, by omega⟩ rfl rfl hl.1 (Nat.le_of_ble_eq_true rfl) dL_law_765 (st1 := [.int (r)]) rfl (fun H hH => ?_)
  refine lv_aload_n hx hb dL_law_768 rfl (lv_at hl 2 rfl) ?_
  refine la_arg (n := n) (j := 1) C hH.2.2 (lv_at hl 4 rfl) (lv_at hl 0 rfl) hn rfl (by decide) dL_law_769 dL_law_770 dL_law_772 dL_law_773 dL_law_774 ?_
  refine la_arg (n := n) (j := 2) C hH.2.2 (lv_at hl 4 rfl) (lv_at hl 0 rfl) hn rfl (by decide) dL_law_775 dL_law_776 dL_law_778 dL_law_779 dL_law_780 ?_
  refine la_arg (n := n) (j := 3) C hH.2.2 (lv_at hl 4 rfl) (lv_at hl 0 rfl) hn rfl (by decide) dL_law_781 dL_law_782 dL_law_784 dL_law_785 dL_law_786 ?_
  refine la_V (k := 1000) (i := 0) (As := [.int (xs (6 * n + 1)), .int (xs (6 * n + 2)), .int (xs (6 * n + 3))]) (rest := [.int (r)]) X hG hH (c_X10_job l _ (En_l10 D cyf s.heap.size (s.heap.size + 75) tb (exs ks)) e2) ml_L_93 kv_X10_job (la_m X hH) rfl rfl ⟨Nat.le_of_ble_eq_true rfl, Nat.le_of_ble_eq_true rfl⟩ ⟨by omega, by omega⟩ rfl rfl hl.1 (Nat.le_of_ble_eq_true rfl) dL_law_787 (st1 := [.int (r), .int (r)]) rfl (fun H hH => ?_)
  refine lv_icmp_eq (tgt := 1800) hx hb dL_law_790 rfl (fun _ => ?_) (fun h => absurd rfl h)
  exact W.widen (by omega) (by omega) (kk tb ks μ2 g H ls ⟨hG, hH, hK.mv (ke1.tr ke2), hR2⟩ hl)
set_option maxHeartbeats 4000000 in
theorem la_worst (C : LC p l s m c b L xs D cyf) (hn : 6 * n + 6 ≤ L) (hI : LI s D cyf tb ks μ g H) (hl : lv_has ls 8 (lcs s b (nI (6 * n)))) (hc : cells + 33 ≤ room_1.cells ∧ slots + 2800 ≤ room_1.slots)
    (kk : ∀ (tb : Nat → Nat) (ks : List Nat) (μ : Mm) (g : Nat → Int64) (H : Heap) (ls : Array Slot), LI s D cyf tb ks μ g H → lv_has ls 8 (lcs s b (nI (6 * n))) → W p l e room_1 s m #[.ref b] below meth c H [] (cells + 33) (slots + 2800) Q (F0 m 1800 ls [])) : W p l e room_1 s m #[.ref b] below meth c H [] cells slots Q (F0 m 795 ls []) := by
  obtain ⟨hG, hH, hK, hR⟩ := hI
  have X := C.cx hG
  have hx := X.1.1
  have hb := X.1.2.1
  obtain ⟨r, μ1, μ2, e1, e2, hR2⟩ := op_worst (F := 1000) (Nat.le_refl _) hR (xs (6 * n + 1))
  have e1 : f_X9_worst 1000 μ (xs (6 * n + 1)) = some (r, μ1) := e1
  have e2 : f_X10_worst 1000 μ1 (xs (6 * n + 1)) = some (r, μ2) := e2
  have ke1 : KP μ μ1 := fun d => (fr_X9_worst (by omega) (by omega) (by omega) (by omega) (by omega) (by omega) (by omega) (by omega) (by omega) (by omega) (by omega) (by omega) (by omega) (by omega) (by omega) (by omega) (by omega) e1).1
  have ke2 : KP μ1 μ2 := fun d => (fr_X10_worst (by omega) (by omega) (by omega) (by omega) (by omega) (by omega) (by omega) (by omega) (by omega) (by omega) (by omega) (by omega) (by omega) (by omega) e2).1
  refine lv_aload_n hx hb dL_law_795 rfl (lv_at hl 3 rfl) ?_
  refine la_arg (n := n) (j := 1) C hH.2.2 (lv_at hl 4 rfl) (lv_at hl 0 rfl) hn rfl (by decide) dL_law_796 dL_law_797 dL_law_799 dL_law_800 dL_law_801 ?_
  refine la_V (k := 900) (i := 0) (As := [.int (xs (6 * n + 1))]) (rest := []) X hG hH (c_X9_worst l _ (En_l9 D cyf s.heap.size (s.heap.size + 75) tb (exs ks)) e1) ml_L_94 kv_X9_worst (la_x X hH) rfl rfl ⟨Nat.le_of_ble_eq_true rfl, Nat.le_of_ble_eq_true rfl⟩ ⟨by omega, by omega⟩ rfl rfl hl.1 (Nat.le_of_ble_eq_true rfl) dL_law_802 (st1 := [.int (r)]) rfl (fun H hH => ?_)
  refine lv_aload_n hx hb dL_law_805 rfl (lv_at hl 2 rfl) ?_
  refine la_arg (n := n) (j := 1) C hH.2.2 (lv_at hl 4 rfl) (lv_at hl 0 rfl) hn rfl (by decide) dL_law_806 dL_law_807 dL_law_809 dL_law_810 dL_law_811 ?_
  refine la_V (k := 1000) (i := 0) (As := [.int (xs (6 * n + 1))]) (rest := [.int (r)]) X hG hH (c_X10_worst l _ (En_l10 D cyf s.heap.size (s.heap.size + 75) tb (exs ks)) e2) ml_L_97 kv_X10_worst (la_m X hH) rfl rfl ⟨Nat.le_of_ble_eq_true rfl, Nat.le_of_ble_eq_true rfl⟩ ⟨by omega, by omega⟩ rfl rfl hl.1 (Nat.le_of_ble_eq_true rfl) dL_law_812 (st1 := [.int (r), .int (r)]) rfl (fun H hH => ?_)
  refine lv_icmp_eq (tgt := 1800) hx hb dL_law_815 rfl (fun _ => ?_) (fun h => absurd rfl h)
  exact W.widen (by omega) (by omega) (kk tb ks μ2 g H ls ⟨hG, hH, hK.mv (ke1.tr ke2), hR2⟩ hl)
set_option maxHeartbeats 4000000 in
theorem la_late (C : LC p l s m c b L xs D cyf) (hn : 6 * n + 6 ≤ L) (hI : LI s D cyf tb ks μ g H) (hl : lv_has ls 8 (lcs s b (nI (6 * n)))) (hc : cells + 33 ≤ room_1.cells ∧ slots + 2800 ≤ room_1.slots)
    (kk : ∀ (tb : Nat → Nat) (ks : List Nat) (μ : Mm) (g : Nat → Int64) (H : Heap) (ls : Array Slot), LI s D cyf tb ks μ g H → lv_has ls 8 (lcs s b (nI (6 * n))) → W p l e room_1 s m #[.ref b] below meth c H [] (cells + 33) (slots + 2800) Q (F0 m 1800 ls [])) : W p l e room_1 s m #[.ref b] below meth c H [] cells slots Q (F0 m 820 ls []) := by
  obtain ⟨hG, hH, hK, hR⟩ := hI
  have X := C.cx hG
  have hx := X.1.1
  have hb := X.1.2.1
  obtain ⟨r, μ1, μ2, e1, e2, hR2⟩ := op_late (F := 1000) (Nat.le_refl _) hR (xs (6 * n + 1)) (xs (6 * n + 2))
  have e1 : f_X9_late 1000 μ (xs (6 * n + 1)) (xs (6 * n + 2)) = some (r, μ1) := e1
  have e2 : f_X10_late 1000 μ1 (xs (6 * n + 1)) (xs (6 * n + 2)) = some (r, μ2) := e2
  have ke1 : KP μ μ1 := fun d => (fr_X9_late (by omega) (by omega) (by omega) (by omega) (by omega) (by omega) (by omega) (by omega) (by omega) (by omega) (by omega) (by omega) (by omega) (by omega) (by omega) (by omega) (by omega) e1).1
  have ke2 : KP μ1 μ2 := fun d => (fr_X10_late (by omega) (by omega) (by omega) (by omega) (by omega) (by omega) (by omega) (by omega) (by omega) (by omega) (by omega) (by omega) (by omega) (by omega) e2).1
  refine lv_aload_n hx hb dL_law_820 rfl (lv_at hl 3 rfl) ?_
  refine la_arg (n := n) (j := 1) C hH.2.2 (lv_at hl 4 rfl) (lv_at hl 0 rfl) hn rfl (by decide) dL_law_821 dL_law_822 dL_law_824 dL_law_825 dL_law_826 ?_
  refine la_arg (n := n) (j := 2) C hH.2.2 (lv_at hl 4 rfl) (lv_at hl 0 rfl) hn rfl (by decide) dL_law_827 dL_law_828 dL_law_830 dL_law_831 dL_law_832 ?_
  refine la_V (k := 900) (i := 0) (As := [.int (xs (6 * n + 1)), .int (xs (6 * n + 2))]) (rest := []) X hG hH (c_X9_late l _ (En_l9 D cyf s.heap.size (s.heap.size + 75) tb (exs ks)) e1) ml_L_98 kv_X9_late (la_x X hH) rfl rfl ⟨Nat.le_of_ble_eq_true rfl, Nat.le_of_ble_eq_true rfl⟩ ⟨by omega, by omega⟩ rfl rfl hl.1 (Nat.le_of_ble_eq_true rfl) dL_law_833 (st1 := [.int (r)]) rfl (fun H hH => ?_)
  refine lv_aload_n hx hb dL_law_836 rfl (lv_at hl 2 rfl) ?_
  refine la_arg (n := n) (j := 1) C hH.2.2 (lv_at hl 4 rfl) (lv_at hl 0 rfl) hn rfl (by decide) dL_law_837 dL_law_838 dL_law_840 dL_law_841 dL_law_842 ?_
  refine la_arg (n := n) (j := 2) C hH.2.2 (lv_at hl 4 rfl) (lv_at hl 0 rfl) hn rfl (by decide) dL_law_843 dL_law_844 dL_law_846 dL_law_847 dL_law_848 ?_
  refine la_V (k := 1000) (i := 0) (As := [.int (xs (6 * n + 1)), .int (xs (6 * n + 2))]) (rest := [.int (r)]) X hG hH (c_X10_late l _ (En_l10 D cyf s.heap.size (s.heap.size + 75) tb (exs ks)) e2) ml_L_101 kv_X10_late (la_m X hH) rfl rfl ⟨Nat.le_of_ble_eq_true rfl, Nat.le_of_ble_eq_true rfl⟩ ⟨by omega, by omega⟩ rfl rfl hl.1 (Nat.le_of_ble_eq_true rfl) dL_law_849 (st1 := [.int (r), .int (r)]) rfl (fun H hH => ?_)
  refine lv_icmp_eq (tgt := 1800) hx hb dL_law_852 rfl (fun _ => ?_) (fun h => absurd rfl h)
  exact W.widen (by omega) (by omega) (kk tb ks μ2 g H ls ⟨hG, hH, hK.mv (ke1.tr ke2), hR2⟩ hl)
set_option maxHeartbeats 4000000 in
theorem la_law (C : LC p l s m c b L xs D cyf) (hn : 6 * n + 6 ≤ L) (hI : LI s D cyf tb ks μ g H) (hl : lv_has ls 8 (lcs s b (nI (6 * n)))) (hc : cells + 33 ≤ room_1.cells ∧ slots + 2800 ≤ room_1.slots)
    (kk : ∀ (tb : Nat → Nat) (ks : List Nat) (μ : Mm) (g : Nat → Int64) (H : Heap) (ls : Array Slot), LI s D cyf tb ks μ g H → lv_has ls 8 (lcs s b (nI (6 * n))) → W p l e room_1 s m #[.ref b] below meth c H [] (cells + 33) (slots + 2800) Q (F0 m 1800 ls [])) : W p l e room_1 s m #[.ref b] below meth c H [] cells slots Q (F0 m 857 ls []) := by
  obtain ⟨hG, hH, hK, hR⟩ := hI
  have X := C.cx hG
  have hx := X.1.1
  have hb := X.1.2.1
  obtain ⟨r, μ1, μ2, e1, e2, hR2⟩ := op_law hR (xs (6 * n + 1)) (xs (6 * n + 2)) (xs (6 * n + 3)) (xs (6 * n + 4))
  have e1 : f_X9_law μ (xs (6 * n + 1)) (xs (6 * n + 2)) (xs (6 * n + 3)) (xs (6 * n + 4)) = some (r, μ1) := e1
  have e2 : f_X10_law μ1 (xs (6 * n + 1)) (xs (6 * n + 2)) (xs (6 * n + 3)) (xs (6 * n + 4)) = some (r, μ2) := e2
  have ke1 : KP μ μ1 := fun d => (fr_X9_law (by omega) (by omega) (by omega) (by omega) (by omega) e1).1
  have ke2 : KP μ1 μ2 := fun d => (fr_X10_law (by omega) (by omega) (by omega) (by omega) (by omega) e2).1
  refine lv_aload_n hx hb dL_law_857 rfl (lv_at hl 3 rfl) ?_
  refine la_arg (n := n) (j := 1) C hH.2.2 (lv_at hl 4 rfl) (lv_at hl 0 rfl) hn rfl (by decide) dL_law_858 dL_law_859 dL_law_861 dL_law_862 dL_law_863 ?_
  refine la_arg (n := n) (j := 2) C hH.2.2 (lv_at hl 4 rfl) (lv_at hl 0 rfl) hn rfl (by decide) dL_law_864 dL_law_865 dL_law_867 dL_law_868 dL_law_869 ?_
  refine la_arg (n := n) (j := 3) C hH.2.2 (lv_at hl 4 rfl) (lv_at hl 0 rfl) hn rfl (by decide) dL_law_870 dL_law_871 dL_law_873 dL_law_874 dL_law_875 ?_
  refine la_arg (n := n) (j := 4) C hH.2.2 (lv_at hl 4 rfl) (lv_at hl 0 rfl) hn rfl (by decide) dL_law_876 dL_law_877 dL_law_879 dL_law_880 dL_law_881 ?_
  refine la_V (k := 900) (i := 0) (As := [.int (xs (6 * n + 1)), .int (xs (6 * n + 2)), .int (xs (6 * n + 3)), .int (xs (6 * n + 4))]) (rest := []) X hG hH (c_X9_law l _ (En_l9 D cyf s.heap.size (s.heap.size + 75) tb (exs ks)) e1) ml_L_102 kv_X9_law (la_x X hH) rfl rfl ⟨Nat.le_of_ble_eq_true rfl, Nat.le_of_ble_eq_true rfl⟩ ⟨by omega, by omega⟩ rfl rfl hl.1 (Nat.le_of_ble_eq_true rfl) dL_law_882 (st1 := [.int (r)]) rfl (fun H hH => ?_)
  refine lv_aload_n hx hb dL_law_885 rfl (lv_at hl 2 rfl) ?_
  refine la_arg (n := n) (j := 1) C hH.2.2 (lv_at hl 4 rfl) (lv_at hl 0 rfl) hn rfl (by decide) dL_law_886 dL_law_887 dL_law_889 dL_law_890 dL_law_891 ?_
  refine la_arg (n := n) (j := 2) C hH.2.2 (lv_at hl 4 rfl) (lv_at hl 0 rfl) hn rfl (by decide) dL_law_892 dL_law_893 dL_law_895 dL_law_896 dL_law_897 ?_
  refine la_arg (n := n) (j := 3) C hH.2.2 (lv_at hl 4 rfl) (lv_at hl 0 rfl) hn rfl (by decide) dL_law_898 dL_law_899 dL_law_901 dL_law_902 dL_law_903 ?_
  refine la_arg (n := n) (j := 4) C hH.2.2 (lv_at hl 4 rfl) (lv_at hl 0 rfl) hn rfl (by decide) dL_law_904 dL_law_905 dL_law_907 dL_law_908 dL_law_909 ?_
  refine la_V (k := 1000) (i := 0) (As := [.int (xs (6 * n + 1)), .int (xs (6 * n + 2)), .int (xs (6 * n + 3)), .int (xs (6 * n + 4))]) (rest := [.int (r)]) X hG hH (c_X10_law l _ (En_l10 D cyf s.heap.size (s.heap.size + 75) tb (exs ks)) e2) ml_L_106 kv_X10_law (la_m X hH) rfl rfl ⟨Nat.le_of_ble_eq_true rfl, Nat.le_of_ble_eq_true rfl⟩ ⟨by omega, by omega⟩ rfl rfl hl.1 (Nat.le_of_ble_eq_true rfl) dL_law_910 (st1 := [.int (r), .int (r)]) rfl (fun H hH => ?_)
  refine lv_icmp_eq (tgt := 1800) hx hb dL_law_913 rfl (fun _ => ?_) (fun h => absurd rfl h)
  exact W.widen (by omega) (by omega) (kk tb ks μ2 g H ls ⟨hG, hH, hK.mv (ke1.tr ke2), hR2⟩ hl)
set_option maxHeartbeats 4000000 in
theorem la_breaks (C : LC p l s m c b L xs D cyf) (hn : 6 * n + 6 ≤ L) (hI : LI s D cyf tb ks μ g H) (hl : lv_has ls 8 (lcs s b (nI (6 * n)))) (hc : cells + 33 ≤ room_1.cells ∧ slots + 2800 ≤ room_1.slots)
    (kk : ∀ (tb : Nat → Nat) (ks : List Nat) (μ : Mm) (g : Nat → Int64) (H : Heap) (ls : Array Slot), LI s D cyf tb ks μ g H → lv_has ls 8 (lcs s b (nI (6 * n))) → W p l e room_1 s m #[.ref b] below meth c H [] (cells + 33) (slots + 2800) Q (F0 m 1800 ls [])) : W p l e room_1 s m #[.ref b] below meth c H [] cells slots Q (F0 m 918 ls []) := by
  obtain ⟨hG, hH, hK, hR⟩ := hI
  have X := C.cx hG
  have hx := X.1.1
  have hb := X.1.2.1
  obtain ⟨r, μ1, μ2, e1, e2, hR2⟩ := op_breaks (F := 1000) (Nat.le_refl _) hR (xs (6 * n + 1)) (xs (6 * n + 2))
  have e1 : f_X9_breaks 1000 μ (xs (6 * n + 1)) (xs (6 * n + 2)) = some (r, μ1) := e1
  have e2 : f_X10_breaks 1000 μ1 (xs (6 * n + 1)) (xs (6 * n + 2)) = some (r, μ2) := e2
  have ke1 : KP μ μ1 := fun d => (fr_X9_breaks (by omega) (by omega) (by omega) (by omega) (by omega) (by omega) (by omega) (by omega) (by omega) (by omega) (by omega) e1).1
  have ke2 : KP μ1 μ2 := fun d => (fr_X10_breaks (by omega) (by omega) (by omega) (by omega) (by omega) (by omega) (by omega) (by omega) (by omega) (by omega) (by omega) (by omega) (by omega) e2).1
  refine lv_aload_n hx hb dL_law_918 rfl (lv_at hl 3 rfl) ?_
  refine la_arg (n := n) (j := 1) C hH.2.2 (lv_at hl 4 rfl) (lv_at hl 0 rfl) hn rfl (by decide) dL_law_919 dL_law_920 dL_law_922 dL_law_923 dL_law_924 ?_
  refine la_arg (n := n) (j := 2) C hH.2.2 (lv_at hl 4 rfl) (lv_at hl 0 rfl) hn rfl (by decide) dL_law_925 dL_law_926 dL_law_928 dL_law_929 dL_law_930 ?_
  refine la_V (k := 900) (i := 0) (As := [.int (xs (6 * n + 1)), .int (xs (6 * n + 2))]) (rest := []) X hG hH (c_X9_breaks l _ (En_l9 D cyf s.heap.size (s.heap.size + 75) tb (exs ks)) e1) ml_L_107 kv_X9_breaks (la_x X hH) rfl rfl ⟨Nat.le_of_ble_eq_true rfl, Nat.le_of_ble_eq_true rfl⟩ ⟨by omega, by omega⟩ rfl rfl hl.1 (Nat.le_of_ble_eq_true rfl) dL_law_931 (st1 := [.int (r)]) rfl (fun H hH => ?_)
  refine lv_aload_n hx hb dL_law_934 rfl (lv_at hl 2 rfl) ?_
  refine la_arg (n := n) (j := 1) C hH.2.2 (lv_at hl 4 rfl) (lv_at hl 0 rfl) hn rfl (by decide) dL_law_935 dL_law_936 dL_law_938 dL_law_939 dL_law_940 ?_
  refine la_arg (n := n) (j := 2) C hH.2.2 (lv_at hl 4 rfl) (lv_at hl 0 rfl) hn rfl (by decide) dL_law_941 dL_law_942 dL_law_944 dL_law_945 dL_law_946 ?_
  refine la_V (k := 1000) (i := 0) (As := [.int (xs (6 * n + 1)), .int (xs (6 * n + 2))]) (rest := [.int (r)]) X hG hH (c_X10_breaks l _ (En_l10 D cyf s.heap.size (s.heap.size + 75) tb (exs ks)) e2) ml_L_110 kv_X10_breaks (la_m X hH) rfl rfl ⟨Nat.le_of_ble_eq_true rfl, Nat.le_of_ble_eq_true rfl⟩ ⟨by omega, by omega⟩ rfl rfl hl.1 (Nat.le_of_ble_eq_true rfl) dL_law_947 (st1 := [.int (r), .int (r)]) rfl (fun H hH => ?_)
  refine lv_icmp_eq (tgt := 1800) hx hb dL_law_950 rfl (fun _ => ?_) (fun h => absurd rfl h)
  exact W.widen (by omega) (by omega) (kk tb ks μ2 g H ls ⟨hG, hH, hK.mv (ke1.tr ke2), hR2⟩ hl)
set_option maxHeartbeats 4000000 in
theorem la_broken (C : LC p l s m c b L xs D cyf) (hn : 6 * n + 6 ≤ L) (hI : LI s D cyf tb ks μ g H) (hl : lv_has ls 8 (lcs s b (nI (6 * n)))) (hc : cells + 33 ≤ room_1.cells ∧ slots + 2800 ≤ room_1.slots)
    (kk : ∀ (tb : Nat → Nat) (ks : List Nat) (μ : Mm) (g : Nat → Int64) (H : Heap) (ls : Array Slot), LI s D cyf tb ks μ g H → lv_has ls 8 (lcs s b (nI (6 * n))) → W p l e room_1 s m #[.ref b] below meth c H [] (cells + 33) (slots + 2800) Q (F0 m 1800 ls [])) : W p l e room_1 s m #[.ref b] below meth c H [] cells slots Q (F0 m 955 ls []) := by
  obtain ⟨hG, hH, hK, hR⟩ := hI
  have X := C.cx hG
  have hx := X.1.1
  have hb := X.1.2.1
  obtain ⟨r, μ1, μ2, e1, e2, hR2⟩ := op_broken (F := 1000) (Nat.le_refl _) hR (xs (6 * n + 1)) (xs (6 * n + 2)) (xs (6 * n + 3))
  have e1 : f_X9_broken 1000 μ (xs (6 * n + 1)) (xs (6 * n + 2)) (xs (6 * n + 3)) = some (r, μ1) := e1
  have e2 : f_X10_broken 1000 μ1 (xs (6 * n + 1)) (xs (6 * n + 2)) (xs (6 * n + 3)) = some (r, μ2) := e2
  have ke1 : KP μ μ1 := fun d => (fr_X9_broken (by omega) (by omega) (by omega) (by omega) (by omega) (by omega) (by omega) (by omega) (by omega) (by omega) (by omega) e1).1
  have ke2 : KP μ1 μ2 := fun d => (fr_X10_broken (by omega) (by omega) (by omega) (by omega) (by omega) (by omega) (by omega) (by omega) (by omega) (by omega) (by omega) (by omega) (by omega) e2).1
  refine lv_aload_n hx hb dL_law_955 rfl (lv_at hl 3 rfl) ?_
  refine la_arg (n := n) (j := 1) C hH.2.2 (lv_at hl 4 rfl) (lv_at hl 0 rfl) hn rfl (by decide) dL_law_956 dL_law_957 dL_law_959 dL_law_960 dL_law_961 ?_
  refine la_arg (n := n) (j := 2) C hH.2.2 (lv_at hl 4 rfl) (lv_at hl 0 rfl) hn rfl (by decide) dL_law_962 dL_law_963 dL_law_965 dL_law_966 dL_law_967 ?_
  refine la_arg (n := n) (j := 3) C hH.2.2 (lv_at hl 4 rfl) (lv_at hl 0 rfl) hn rfl (by decide) dL_law_968 dL_law_969 dL_law_971 dL_law_972 dL_law_973 ?_
  refine la_V (k := 900) (i := 0) (As := [.int (xs (6 * n + 1)), .int (xs (6 * n + 2)), .int (xs (6 * n + 3))]) (rest := []) X hG hH (c_X9_broken l _ (En_l9 D cyf s.heap.size (s.heap.size + 75) tb (exs ks)) e1) ml_L_111 kv_X9_broken (la_x X hH) rfl rfl ⟨Nat.le_of_ble_eq_true rfl, Nat.le_of_ble_eq_true rfl⟩ ⟨by omega, by omega⟩ rfl rfl hl.1 (Nat.le_of_ble_eq_true rfl) dL_law_974 (st1 := [.int (r)]) rfl (fun H hH => ?_)
  refine lv_aload_n hx hb dL_law_977 rfl (lv_at hl 2 rfl) ?_
  refine la_arg (n := n) (j := 1) C hH.2.2 (lv_at hl 4 rfl) (lv_at hl 0 rfl) hn rfl (by decide) dL_law_978 dL_law_979 dL_law_981 dL_law_982 dL_law_983 ?_
  refine la_arg (n := n) (j := 2) C hH.2.2 (lv_at hl 4 rfl) (lv_at hl 0 rfl) hn rfl (by decide) dL_law_984 dL_law_985 dL_law_987 dL_law_988 dL_law_989 ?_
  refine la_arg (n := n) (j := 3) C hH.2.2 (lv_at hl 4 rfl) (lv_at hl 0 rfl) hn rfl (by decide) dL_law_990 dL_law_991 dL_law_993 dL_law_994 dL_law_995 ?_
  refine la_V (k := 1000) (i := 0) (As := [.int (xs (6 * n + 1)), .int (xs (6 * n + 2)), .int (xs (6 * n + 3))]) (rest := [.int (r)]) X hG hH (c_X10_broken l _ (En_l10 D cyf s.heap.size (s.heap.size + 75) tb (exs ks)) e2) ml_L_114 kv_X10_broken (la_m X hH) rfl rfl ⟨Nat.le_of_ble_eq_true rfl, Nat.le_of_ble_eq_true rfl⟩ ⟨by omega, by omega⟩ rfl rfl hl.1 (Nat.le_of_ble_eq_true rfl) dL_law_996 (st1 := [.int (r), .int (r)]) rfl (fun H hH => ?_)
  refine lv_icmp_eq (tgt := 1800) hx hb dL_law_999 rfl (fun _ => ?_) (fun h => absurd rfl h)
  exact W.widen (by omega) (by omega) (kk tb ks μ2 g H ls ⟨hG, hH, hK.mv (ke1.tr ke2), hR2⟩ hl)
set_option maxHeartbeats 4000000 in
theorem la_agree (C : LC p l s m c b L xs D cyf) (hn : 6 * n + 6 ≤ L) (hI : LI s D cyf tb ks μ g H) (hl : lv_has ls 8 (lcs s b (nI (6 * n)))) (hc : cells + 33 ≤ room_1.cells ∧ slots + 2800 ≤ room_1.slots)
    (kk : ∀ (tb : Nat → Nat) (ks : List Nat) (μ : Mm) (g : Nat → Int64) (H : Heap) (ls : Array Slot), LI s D cyf tb ks μ g H → lv_has ls 8 (lcs s b (nI (6 * n))) → W p l e room_1 s m #[.ref b] below meth c H [] (cells + 33) (slots + 2800) Q (F0 m 1800 ls [])) : W p l e room_1 s m #[.ref b] below meth c H [] cells slots Q (F0 m 1004 ls []) := by
  obtain ⟨hG, hH, hK, hR⟩ := hI
  have X := C.cx hG
  have hx := X.1.1
  have hb := X.1.2.1
  obtain ⟨r, μ1, μ2, e1, e2, hR2⟩ := op_agree (F := 1000) (Nat.le_refl _) hR
  have e1 : f_X9_agree 1000 μ = some (r, μ1) := e1
  have e2 : f_X10_agree 1000 μ1 = some (r, μ2) := e2
  have ke1 : KP μ μ1 := fun d => (fr_X9_agree (by omega) e1).1
  have ke2 : KP μ1 μ2 := fun d => (fr_X10_agree (by omega) (by omega) (by omega) e2).1
  refine lv_aload_n hx hb dL_law_1004 rfl (lv_at hl 3 rfl) ?_
  refine la_V (k := 900) (i := 0) (As := []) (rest := []) X hG hH (c_X9_agree l _ (En_l9 D cyf s.heap.size (s.heap.size + 75) tb (exs ks)) e1) ml_L_115 kv_X9_agree (la_x X hH) rfl rfl ⟨Nat.le_of_ble_eq_true rfl, Nat.le_of_ble_eq_true rfl⟩ ⟨by omega, by omega⟩ rfl rfl hl.1 (Nat.le_of_ble_eq_true rfl) dL_law_1005 (st1 := [.int (r)]) rfl (fun H hH => ?_)
  refine lv_aload_n hx hb dL_law_1008 rfl (lv_at hl 2 rfl) ?_
  refine la_V (k := 1000) (i := 0) (As := []) (rest := [.int (r)]) X hG hH (c_X10_agree l _ (En_l10 D cyf s.heap.size (s.heap.size + 75) tb (exs ks)) e2) ml_L_119 kv_X10_agree (la_m X hH) rfl rfl ⟨Nat.le_of_ble_eq_true rfl, Nat.le_of_ble_eq_true rfl⟩ ⟨by omega, by omega⟩ rfl rfl hl.1 (Nat.le_of_ble_eq_true rfl) dL_law_1009 (st1 := [.int (r), .int (r)]) rfl (fun H hH => ?_)
  refine lv_icmp_eq (tgt := 1800) hx hb dL_law_1012 rfl (fun _ => ?_) (fun h => absurd rfl h)
  exact W.widen (by omega) (by omega) (kk tb ks μ2 g H ls ⟨hG, hH, hK.mv (ke1.tr ke2), hR2⟩ hl)
set_option maxHeartbeats 4000000 in
theorem la_gap (C : LC p l s m c b L xs D cyf) (hn : 6 * n + 6 ≤ L) (hI : LI s D cyf tb ks μ g H) (hl : lv_has ls 8 (lcs s b (nI (6 * n)))) (hc : cells + 33 ≤ room_1.cells ∧ slots + 2800 ≤ room_1.slots)
    (kk : ∀ (tb : Nat → Nat) (ks : List Nat) (μ : Mm) (g : Nat → Int64) (H : Heap) (ls : Array Slot), LI s D cyf tb ks μ g H → lv_has ls 8 (lcs s b (nI (6 * n))) → W p l e room_1 s m #[.ref b] below meth c H [] (cells + 33) (slots + 2800) Q (F0 m 1800 ls [])) : W p l e room_1 s m #[.ref b] below meth c H [] cells slots Q (F0 m 1017 ls []) := by
  obtain ⟨hG, hH, hK, hR⟩ := hI
  have X := C.cx hG
  have hx := X.1.1
  have hb := X.1.2.1
  obtain ⟨k, v, r, μ1, μ2, e1, e2, hk, hv, -, hR2⟩ := op_gap (F := 1000) (Nat.le_refl _) hR (xs (6 * n + 1)) (xs (6 * n + 2)) (xs (6 * n + 3))
  have e1 : f_X9_gap 1000 μ (xs (6 * n + 1)) (xs (6 * n + 2)) (xs (6 * n + 3)) = some (k, v, μ1) := e1
  have e2 : f_X10_gap 1000 μ1 (xs (6 * n + 1)) (xs (6 * n + 2)) (xs (6 * n + 3)) = some (r, μ2) := e2
  have ke1 : KP μ μ1 := kp_X9_gap e1
  have ke2 : KP μ1 μ2 := fun d => (fr_X10_gap (by omega) (by omega) (by omega) (by omega) e2).1
  refine lv_aload_n hx hb dL_law_1017 rfl (lv_at hl 3 rfl) ?_
  refine la_arg (n := n) (j := 1) C hH.2.2 (lv_at hl 4 rfl) (lv_at hl 0 rfl) hn rfl (by decide) dL_law_1018 dL_law_1019 dL_law_1021 dL_law_1022 dL_law_1023 ?_
  refine la_arg (n := n) (j := 2) C hH.2.2 (lv_at hl 4 rfl) (lv_at hl 0 rfl) hn rfl (by decide) dL_law_1024 dL_law_1025 dL_law_1027 dL_law_1028 dL_law_1029 ?_
  refine la_arg (n := n) (j := 3) C hH.2.2 (lv_at hl 4 rfl) (lv_at hl 0 rfl) hn rfl (by decide) dL_law_1030 dL_law_1031 dL_law_1033 dL_law_1034 dL_law_1035 ?_
  refine lv_aload_n hx hb dL_law_1036 rfl (lv_at hl 1 rfl) ?_
  refine la_S (np := 5) (k := k) (v := v.toInt64) (As := [.ref (s.heap.size), .int (xs (6 * n + 1)), .int (xs (6 * n + 2)), .int (xs (6 * n + 3)), .ref (s.heap.size + 113)]) (rest := []) X hG hH C.2.2.2.2.2.1 C.2.2.2.2.2.2.1 (c_L_gap l C.2.2.2.2.2.2.2.1 (EL s D cyf tb ks) (F := 1000) (ao := s.heap.size + 113) (g := g) (En_l9 D cyf s.heap.size (s.heap.size + 75) tb (exs ks)) e1) ml_L_120 cw_L_gap (T1_of 1034 (by decide +kernel) rfl) in_L (by decide +kernel) rfl rfl ⟨Nat.le_of_ble_eq_true rfl, Nat.le_of_ble_eq_true rfl⟩ ⟨by omega, by omega⟩ rfl rfl hl.1 (Nat.le_of_ble_eq_true rfl) dL_law_1037 (fun H g hg hH => ?_)
  refine lv_istore hx hb dL_law_1040 hl (by decide) rfl (fun ls hl => ?_)
  have hl : lv_has ls 8 ((5, .int k) :: lcs s b (nI (6 * n))) := hl
  refine lv_aload_n hx hb dL_law_1042 rfl (lv_at hl 3 rfl) ?_
  refine la_arg (n := n) (j := 1) C hH.2.2 (lv_at hl 5 rfl) (lv_at hl 1 rfl) hn rfl (by decide) dL_law_1043 dL_law_1044 dL_law_1046 dL_law_1047 dL_law_1048 ?_
  refine la_arg (n := n) (j := 2) C hH.2.2 (lv_at hl 5 rfl) (lv_at hl 1 rfl) hn rfl (by decide) dL_law_1049 dL_law_1050 dL_law_1052 dL_law_1053 dL_law_1054 ?_
  refine la_arg (n := n) (j := 3) C hH.2.2 (lv_at hl 5 rfl) (lv_at hl 1 rfl) hn rfl (by decide) dL_law_1055 dL_law_1056 dL_law_1058 dL_law_1059 dL_law_1060 ?_
  refine la_V (k := 1000) (i := 0) (As := [.int (xs (6 * n + 1)), .int (xs (6 * n + 2)), .int (xs (6 * n + 3))]) (rest := []) X hG hH (c_X10_gap l _ (En_l10 D cyf s.heap.size (s.heap.size + 75) tb (exs ks)) e2) ml_L_125 kv_X10_gap (la_m X hH) rfl rfl ⟨Nat.le_of_ble_eq_true rfl, Nat.le_of_ble_eq_true rfl⟩ ⟨by omega, by omega⟩ rfl rfl hl.1 (Nat.le_of_ble_eq_true rfl) dL_law_1061 (st1 := [.int (r)]) rfl (fun H hH => ?_)
  refine lv_istore hx hb dL_law_1064 hl (by decide) rfl (fun ls hl => ?_)
  have hl : lv_has ls 8 ((6, .int r) :: (5, .int k) :: lcs s b (nI (6 * n))) := hl
  refine lv_aload_n hx hb dL_law_1066 rfl (lv_at hl 4 rfl) ?_
  refine la_V (k := 1000) (i := 0) (As := []) (rest := []) X hG hH (c_X10_thrown l _ (En_l10 D cyf s.heap.size (s.heap.size + 75) tb (exs ks)) (show f_X10_thrown μ2 = some k from congrArg some hk)) ml_L_126 kv_X10_thrown (la_m X hH) rfl rfl ⟨Nat.le_of_ble_eq_true rfl, Nat.le_of_ble_eq_true rfl⟩ ⟨by omega, by omega⟩ rfl rfl hl.1 (Nat.le_of_ble_eq_true rfl) dL_law_1067 (st1 := [.int (k)]) rfl (fun H hH => ?_)
  refine lv_iload hx hb dL_law_1070 (lv_at hl 1 rfl) ?_
  refine lv_icmp_eq (tgt := 1077) hx hb dL_law_1072 rfl (fun _ => ?_) (fun h => absurd rfl h)
  refine lv_iload hx hb dL_law_1077 (lv_at hl 1 rfl) ?_
  have fin : ∀ q : Unit, W p l e room_1 s m #[.ref b] below meth c H [] (cells + 1) (slots + 6) Q (F0 m 1094 ls []) := fun _ => by
    refine lv_goto (tgt := 1800) hx hb dL_law_1094 rfl ?_
    exact W.widen (by omega) (by omega) (kk tb ks μ2 g H ls ⟨hG, hH, hK.mv (ke1.tr ke2), hR2⟩ ⟨hl.1, hl.2.1, fun q hq => hl.2.2 q (List.mem_cons_of_mem _ (List.mem_cons_of_mem _ hq))⟩)
  refine lv_if_ne (tgt := 1094) hx hb dL_law_1079 rfl (fun _ => fin ()) (fun h0 => ?_)
  refine lv_aload_n hx hb dL_law_1082 rfl (lv_at hl 3 rfl) ?_
  refine lv_iconst (v := (0 : Int32)) hx hb dL_law_1083 kc_0 ?_
  refine la_out X hH dL_law_1084 ?_
  refine lv_iload hx hb dL_law_1085 (lv_at hl 0 rfl) ?_
  refine lv_i2l (v := r.toInt64) hx hb dL_law_1087 rfl ?_
  rw [hg h0, hv h0]
  refine W.lcmp hx hb dL_law_1088 ?_
  rw [cmp_self]
  exact lv_if_eq (tgt := 1094) hx hb dL_law_1089 rfl (fun _ => fin ()) (fun h => absurd rfl h)
set_option maxHeartbeats 4000000 in
theorem la_answer (C : LC p l s m c b L xs D cyf) (hn : 6 * n + 6 ≤ L) (hI : LI s D cyf tb ks μ g H) (hl : lv_has ls 8 (lcs s b (nI (6 * n)))) (hc : cells + 33 ≤ room_1.cells ∧ slots + 2800 ≤ room_1.slots)
    (kk : ∀ (tb : Nat → Nat) (ks : List Nat) (μ : Mm) (g : Nat → Int64) (H : Heap) (ls : Array Slot), LI s D cyf tb ks μ g H → lv_has ls 8 (lcs s b (nI (6 * n))) → W p l e room_1 s m #[.ref b] below meth c H [] (cells + 33) (slots + 2800) Q (F0 m 1800 ls [])) : W p l e room_1 s m #[.ref b] below meth c H [] cells slots Q (F0 m 1097 ls []) := by
  obtain ⟨hG, hH, hK, hR⟩ := hI
  have X := C.cx hG
  have hx := X.1.1
  have hb := X.1.2.1
  obtain ⟨k, v, r, μ1, μ2, e1, e2, hk, hv, -, hR2⟩ := op_answer (F := 1000) (Nat.le_refl _) hR (xs (6 * n + 1)) (xs (6 * n + 2))
  have e1 : f_X9_answer 1000 μ (xs (6 * n + 1)) (xs (6 * n + 2)) = some (k, v, μ1) := e1
  have e2 : f_X10_answer 1000 μ1 (xs (6 * n + 1)) (xs (6 * n + 2)) = some (r, μ2) := e2
  have ke1 : KP μ μ1 := kp_X9_answer e1
  have ke2 : KP μ1 μ2 := fun d => (fr_X10_answer (by omega) (by omega) (by omega) (by omega) e2).1
  refine lv_aload_n hx hb dL_law_1097 rfl (lv_at hl 3 rfl) ?_
  refine la_arg (n := n) (j := 1) C hH.2.2 (lv_at hl 4 rfl) (lv_at hl 0 rfl) hn rfl (by decide) dL_law_1098 dL_law_1099 dL_law_1101 dL_law_1102 dL_law_1103 ?_
  refine la_arg (n := n) (j := 2) C hH.2.2 (lv_at hl 4 rfl) (lv_at hl 0 rfl) hn rfl (by decide) dL_law_1104 dL_law_1105 dL_law_1107 dL_law_1108 dL_law_1109 ?_
  refine lv_aload_n hx hb dL_law_1110 rfl (lv_at hl 1 rfl) ?_
  refine la_S (np := 4) (k := k) (v := v.toInt64) (As := [.ref (s.heap.size), .int (xs (6 * n + 1)), .int (xs (6 * n + 2)), .ref (s.heap.size + 113)]) (rest := []) X hG hH C.2.2.2.2.2.1 C.2.2.2.2.2.2.1 (c_L_answer l C.2.2.2.2.2.2.2.1 (EL s D cyf tb ks) (F := 1000) (ao := s.heap.size + 113) (g := g) (En_l9 D cyf s.heap.size (s.heap.size + 75) tb (exs ks)) e1) ml_L_129 cw_L_answer (T1_of 1135 (by decide +kernel) rfl) in_L (by decide +kernel) rfl rfl ⟨Nat.le_of_ble_eq_true rfl, Nat.le_of_ble_eq_true rfl⟩ ⟨by omega, by omega⟩ rfl rfl hl.1 (Nat.le_of_ble_eq_true rfl) dL_law_1111 (fun H g hg hH => ?_)
  refine lv_istore hx hb dL_law_1114 hl (by decide) rfl (fun ls hl => ?_)
  have hl : lv_has ls 8 ((5, .int k) :: lcs s b (nI (6 * n))) := hl
  refine lv_aload_n hx hb dL_law_1116 rfl (lv_at hl 3 rfl) ?_
  refine la_arg (n := n) (j := 1) C hH.2.2 (lv_at hl 5 rfl) (lv_at hl 1 rfl) hn rfl (by decide) dL_law_1117 dL_law_1118 dL_law_1120 dL_law_1121 dL_law_1122 ?_
  refine la_arg (n := n) (j := 2) C hH.2.2 (lv_at hl 5 rfl) (lv_at hl 1 rfl) hn rfl (by decide) dL_law_1123 dL_law_1124 dL_law_1126 dL_law_1127 dL_law_1128 ?_
  refine la_V (k := 1000) (i := 0) (As := [.int (xs (6 * n + 1)), .int (xs (6 * n + 2))]) (rest := []) X hG hH (c_X10_answer l _ (En_l10 D cyf s.heap.size (s.heap.size + 75) tb (exs ks)) e2) ml_L_132 kv_X10_answer (la_m X hH) rfl rfl ⟨Nat.le_of_ble_eq_true rfl, Nat.le_of_ble_eq_true rfl⟩ ⟨by omega, by omega⟩ rfl rfl hl.1 (Nat.le_of_ble_eq_true rfl) dL_law_1129 (st1 := [.int (r)]) rfl (fun H hH => ?_)
  refine lv_istore hx hb dL_law_1132 hl (by decide) rfl (fun ls hl => ?_)
  have hl : lv_has ls 8 ((6, .int r) :: (5, .int k) :: lcs s b (nI (6 * n))) := hl
  refine lv_aload_n hx hb dL_law_1134 rfl (lv_at hl 4 rfl) ?_
  refine la_V (k := 1000) (i := 0) (As := []) (rest := []) X hG hH (c_X10_thrown l _ (En_l10 D cyf s.heap.size (s.heap.size + 75) tb (exs ks)) (show f_X10_thrown μ2 = some k from congrArg some hk)) ml_L_126 kv_X10_thrown (la_m X hH) rfl rfl ⟨Nat.le_of_ble_eq_true rfl, Nat.le_of_ble_eq_true rfl⟩ ⟨by omega, by omega⟩ rfl rfl hl.1 (Nat.le_of_ble_eq_true rfl) dL_law_1135 (st1 := [.int (k)]) rfl (fun H hH => ?_)
  refine lv_iload hx hb dL_law_1138 (lv_at hl 1 rfl) ?_
  refine lv_icmp_eq (tgt := 1145) hx hb dL_law_1140 rfl (fun _ => ?_) (fun h => absurd rfl h)
  refine lv_iload hx hb dL_law_1145 (lv_at hl 1 rfl) ?_
  have fin : ∀ q : Unit, W p l e room_1 s m #[.ref b] below meth c H [] (cells + 1) (slots + 6) Q (F0 m 1162 ls []) := fun _ => by
    refine lv_goto (tgt := 1800) hx hb dL_law_1162 rfl ?_
    exact W.widen (by omega) (by omega) (kk tb ks μ2 g H ls ⟨hG, hH, hK.mv (ke1.tr ke2), hR2⟩ ⟨hl.1, hl.2.1, fun q hq => hl.2.2 q (List.mem_cons_of_mem _ (List.mem_cons_of_mem _ hq))⟩)
  refine lv_if_ne (tgt := 1162) hx hb dL_law_1147 rfl (fun _ => fin ()) (fun h0 => ?_)
  refine lv_aload_n hx hb dL_law_1150 rfl (lv_at hl 3 rfl) ?_
  refine lv_iconst (v := (0 : Int32)) hx hb dL_law_1151 kc_0 ?_
  refine la_out X hH dL_law_1152 ?_
  refine lv_iload hx hb dL_law_1153 (lv_at hl 0 rfl) ?_
  refine lv_i2l (v := r.toInt64) hx hb dL_law_1155 rfl ?_
  rw [hg h0, hv h0]
  refine W.lcmp hx hb dL_law_1156 ?_
  rw [cmp_self]
  exact lv_if_eq (tgt := 1162) hx hb dL_law_1157 rfl (fun _ => fin ()) (fun h => absurd rfl h)
set_option maxHeartbeats 4000000 in
theorem la_again (C : LC p l s m c b L xs D cyf) (hn : 6 * n + 6 ≤ L) (hI : LI s D cyf tb ks μ g H) (hl : lv_has ls 8 (lcs s b (nI (6 * n)))) (hc : cells + 33 ≤ room_1.cells ∧ slots + 2800 ≤ room_1.slots)
    (kk : ∀ (tb : Nat → Nat) (ks : List Nat) (μ : Mm) (g : Nat → Int64) (H : Heap) (ls : Array Slot), LI s D cyf tb ks μ g H → lv_has ls 8 (lcs s b (nI (6 * n))) → W p l e room_1 s m #[.ref b] below meth c H [] (cells + 33) (slots + 2800) Q (F0 m 1800 ls [])) : W p l e room_1 s m #[.ref b] below meth c H [] cells slots Q (F0 m 1165 ls []) := by
  obtain ⟨hG, hH, hK, hR⟩ := hI
  have X := C.cx hG
  have hx := X.1.1
  have hb := X.1.2.1
  obtain ⟨r, μ1, μ2, e1, e2, hR2⟩ := op_again (F := 1000) (Nat.le_refl _) hR (xs (6 * n + 1)) (xs (6 * n + 2))
  have e1 : f_X9_again 1000 μ (xs (6 * n + 1)) (xs (6 * n + 2)) = some (r, μ1) := e1
  have e2 : f_X10_again 1000 μ1 (xs (6 * n + 1)) (xs (6 * n + 2)) = some (r, μ2) := e2
  have ke1 : KP μ μ1 := fun d => (fr_X9_again (by omega) (by omega) (by omega) (by omega) (by omega) (by omega) (by omega) (by omega) (by omega) (by omega) (by omega) (by omega) (by omega) (by omega) (by omega) (by omega) (by omega) (by omega) (by omega) (by omega) e1).1
  have ke2 : KP μ1 μ2 := fun d => (fr_X10_again (by omega) (by omega) (by omega) (by omega) (by omega) (by omega) (by omega) (by omega) (by omega) (by omega) (by omega) (by omega) (by omega) (by omega) (by omega) (by omega) (by omega) (by omega) (by omega) (by omega) e2).1
  refine lv_aload_n hx hb dL_law_1165 rfl (lv_at hl 3 rfl) ?_
  refine la_arg (n := n) (j := 1) C hH.2.2 (lv_at hl 4 rfl) (lv_at hl 0 rfl) hn rfl (by decide) dL_law_1166 dL_law_1167 dL_law_1169 dL_law_1170 dL_law_1171 ?_
  refine la_arg (n := n) (j := 2) C hH.2.2 (lv_at hl 4 rfl) (lv_at hl 0 rfl) hn rfl (by decide) dL_law_1172 dL_law_1173 dL_law_1175 dL_law_1176 dL_law_1177 ?_
  refine la_V (k := 900) (i := 0) (As := [.int (xs (6 * n + 1)), .int (xs (6 * n + 2))]) (rest := []) X hG hH (c_X9_again l _ (En_l9 D cyf s.heap.size (s.heap.size + 75) tb (exs ks)) e1) ml_L_133 kv_X9_again (la_x X hH) rfl rfl ⟨Nat.le_of_ble_eq_true rfl, Nat.le_of_ble_eq_true rfl⟩ ⟨by omega, by omega⟩ rfl rfl hl.1 (Nat.le_of_ble_eq_true rfl) dL_law_1178 (st1 := [.int (r)]) rfl (fun H hH => ?_)
  refine lv_aload_n hx hb dL_law_1181 rfl (lv_at hl 2 rfl) ?_
  refine la_arg (n := n) (j := 1) C hH.2.2 (lv_at hl 4 rfl) (lv_at hl 0 rfl) hn rfl (by decide) dL_law_1182 dL_law_1183 dL_law_1185 dL_law_1186 dL_law_1187 ?_
  refine la_arg (n := n) (j := 2) C hH.2.2 (lv_at hl 4 rfl) (lv_at hl 0 rfl) hn rfl (by decide) dL_law_1188 dL_law_1189 dL_law_1191 dL_law_1192 dL_law_1193 ?_
  refine la_V (k := 1000) (i := 0) (As := [.int (xs (6 * n + 1)), .int (xs (6 * n + 2))]) (rest := [.int (r)]) X hG hH (c_X10_again l _ (En_l10 D cyf s.heap.size (s.heap.size + 75) tb (exs ks)) e2) ml_L_136 kv_X10_again (la_m X hH) rfl rfl ⟨Nat.le_of_ble_eq_true rfl, Nat.le_of_ble_eq_true rfl⟩ ⟨by omega, by omega⟩ rfl rfl hl.1 (Nat.le_of_ble_eq_true rfl) dL_law_1194 (st1 := [.int (r), .int (r)]) rfl (fun H hH => ?_)
  refine lv_icmp_eq (tgt := 1800) hx hb dL_law_1197 rfl (fun _ => ?_) (fun h => absurd rfl h)
  exact W.widen (by omega) (by omega) (kk tb ks μ2 g H ls ⟨hG, hH, hK.mv (ke1.tr ke2), hR2⟩ hl)
set_option maxHeartbeats 4000000 in
theorem la_slowest (C : LC p l s m c b L xs D cyf) (hn : 6 * n + 6 ≤ L) (hI : LI s D cyf tb ks μ g H) (hl : lv_has ls 8 (lcs s b (nI (6 * n)))) (hc : cells + 33 ≤ room_1.cells ∧ slots + 2800 ≤ room_1.slots)
    (kk : ∀ (tb : Nat → Nat) (ks : List Nat) (μ : Mm) (g : Nat → Int64) (H : Heap) (ls : Array Slot), LI s D cyf tb ks μ g H → lv_has ls 8 (lcs s b (nI (6 * n))) → W p l e room_1 s m #[.ref b] below meth c H [] (cells + 33) (slots + 2800) Q (F0 m 1800 ls [])) : W p l e room_1 s m #[.ref b] below meth c H [] cells slots Q (F0 m 1202 ls []) := by
  obtain ⟨hG, hH, hK, hR⟩ := hI
  have X := C.cx hG
  have hx := X.1.1
  have hb := X.1.2.1
  obtain ⟨r, μ1, μ2, e1, e2, hR2⟩ := op_slowest (F := 1000) (Nat.le_refl _) hR (xs (6 * n + 1))
  have e1 : f_X9_slowest 1000 μ (xs (6 * n + 1)) = some (r, μ1) := e1
  have e2 : f_X10_slowest 1000 μ1 (xs (6 * n + 1)) = some (r, μ2) := e2
  have ke1 : KP μ μ1 := fun d => (fr_X9_slowest (by omega) (by omega) (by omega) (by omega) (by omega) (by omega) (by omega) (by omega) (by omega) (by omega) (by omega) (by omega) (by omega) (by omega) (by omega) (by omega) (by omega) (by omega) (by omega) (by omega) e1).1
  have ke2 : KP μ1 μ2 := fun d => (fr_X10_slowest (by omega) (by omega) (by omega) (by omega) (by omega) (by omega) (by omega) (by omega) (by omega) (by omega) (by omega) (by omega) (by omega) (by omega) (by omega) (by omega) (by omega) (by omega) (by omega) (by omega) e2).1
  refine lv_aload_n hx hb dL_law_1202 rfl (lv_at hl 3 rfl) ?_
  refine la_arg (n := n) (j := 1) C hH.2.2 (lv_at hl 4 rfl) (lv_at hl 0 rfl) hn rfl (by decide) dL_law_1203 dL_law_1204 dL_law_1206 dL_law_1207 dL_law_1208 ?_
  refine la_V (k := 900) (i := 0) (As := [.int (xs (6 * n + 1))]) (rest := []) X hG hH (c_X9_slowest l _ (En_l9 D cyf s.heap.size (s.heap.size + 75) tb (exs ks)) e1) ml_L_137 kv_X9_slowest (la_x X hH) rfl rfl ⟨Nat.le_of_ble_eq_true rfl, Nat.le_of_ble_eq_true rfl⟩ ⟨by omega, by omega⟩ rfl rfl hl.1 (Nat.le_of_ble_eq_true rfl) dL_law_1209 (st1 := [.int (r)]) rfl (fun H hH => ?_)
  refine lv_aload_n hx hb dL_law_1212 rfl (lv_at hl 2 rfl) ?_
  refine la_arg (n := n) (j := 1) C hH.2.2 (lv_at hl 4 rfl) (lv_at hl 0 rfl) hn rfl (by decide) dL_law_1213 dL_law_1214 dL_law_1216 dL_law_1217 dL_law_1218 ?_
  refine la_V (k := 1000) (i := 0) (As := [.int (xs (6 * n + 1))]) (rest := [.int (r)]) X hG hH (c_X10_slowest l _ (En_l10 D cyf s.heap.size (s.heap.size + 75) tb (exs ks)) e2) ml_L_140 kv_X10_slowest (la_m X hH) rfl rfl ⟨Nat.le_of_ble_eq_true rfl, Nat.le_of_ble_eq_true rfl⟩ ⟨by omega, by omega⟩ rfl rfl hl.1 (Nat.le_of_ble_eq_true rfl) dL_law_1219 (st1 := [.int (r), .int (r)]) rfl (fun H hH => ?_)
  refine lv_icmp_eq (tgt := 1800) hx hb dL_law_1222 rfl (fun _ => ?_) (fun h => absurd rfl h)
  exact W.widen (by omega) (by omega) (kk tb ks μ2 g H ls ⟨hG, hH, hK.mv (ke1.tr ke2), hR2⟩ hl)
set_option maxHeartbeats 4000000 in
theorem la_period (C : LC p l s m c b L xs D cyf) (hn : 6 * n + 6 ≤ L) (hI : LI s D cyf tb ks μ g H) (hl : lv_has ls 8 (lcs s b (nI (6 * n)))) (hc : cells + 33 ≤ room_1.cells ∧ slots + 2800 ≤ room_1.slots)
    (kk : ∀ (tb : Nat → Nat) (ks : List Nat) (μ : Mm) (g : Nat → Int64) (H : Heap) (ls : Array Slot), LI s D cyf tb ks μ g H → lv_has ls 8 (lcs s b (nI (6 * n))) → W p l e room_1 s m #[.ref b] below meth c H [] (cells + 33) (slots + 2800) Q (F0 m 1800 ls [])) : W p l e room_1 s m #[.ref b] below meth c H [] cells slots Q (F0 m 1227 ls []) := by
  obtain ⟨hG, hH, hK, hR⟩ := hI
  have X := C.cx hG
  have hx := X.1.1
  have hb := X.1.2.1
  obtain ⟨r, μ1, μ2, e1, e2, hR2⟩ := op_period (F := 1000) (Nat.le_refl _) hR (xs (6 * n + 1)) (xs (6 * n + 2))
  have e1 : f_X9_period 1000 μ (xs (6 * n + 1)) (xs (6 * n + 2)) = some (r, μ1) := e1
  have e2 : f_X10_period 1000 μ1 (xs (6 * n + 1)) (xs (6 * n + 2)) = some (r, μ2) := e2
  have ke1 : KP μ μ1 := fun d => (fr_X9_period (by omega) (by omega) (by omega) (by omega) (by omega) (by omega) (by omega) (by omega) (by omega) (by omega) (by omega) (by omega) (by omega) (by omega) (by omega) (by omega) (by omega) e1).1
  have ke2 : KP μ1 μ2 := fun d => (fr_X10_period (by omega) (by omega) (by omega) (by omega) (by omega) (by omega) (by omega) (by omega) (by omega) (by omega) (by omega) (by omega) (by omega) (by omega) e2).1
  refine lv_aload_n hx hb dL_law_1227 rfl (lv_at hl 3 rfl) ?_
  refine la_arg (n := n) (j := 1) C hH.2.2 (lv_at hl 4 rfl) (lv_at hl 0 rfl) hn rfl (by decide) dL_law_1228 dL_law_1229 dL_law_1231 dL_law_1232 dL_law_1233 ?_
  refine la_arg (n := n) (j := 2) C hH.2.2 (lv_at hl 4 rfl) (lv_at hl 0 rfl) hn rfl (by decide) dL_law_1234 dL_law_1235 dL_law_1237 dL_law_1238 dL_law_1239 ?_
  refine la_V (k := 900) (i := 0) (As := [.int (xs (6 * n + 1)), .int (xs (6 * n + 2))]) (rest := []) X hG hH (c_X9_period l _ (En_l9 D cyf s.heap.size (s.heap.size + 75) tb (exs ks)) e1) ml_L_141 kv_X9_period (la_x X hH) rfl rfl ⟨Nat.le_of_ble_eq_true rfl, Nat.le_of_ble_eq_true rfl⟩ ⟨by omega, by omega⟩ rfl rfl hl.1 (Nat.le_of_ble_eq_true rfl) dL_law_1240 (st1 := [.int (r)]) rfl (fun H hH => ?_)
  refine lv_aload_n hx hb dL_law_1243 rfl (lv_at hl 2 rfl) ?_
  refine la_arg (n := n) (j := 1) C hH.2.2 (lv_at hl 4 rfl) (lv_at hl 0 rfl) hn rfl (by decide) dL_law_1244 dL_law_1245 dL_law_1247 dL_law_1248 dL_law_1249 ?_
  refine la_arg (n := n) (j := 2) C hH.2.2 (lv_at hl 4 rfl) (lv_at hl 0 rfl) hn rfl (by decide) dL_law_1250 dL_law_1251 dL_law_1253 dL_law_1254 dL_law_1255 ?_
  refine la_V (k := 1000) (i := 0) (As := [.int (xs (6 * n + 1)), .int (xs (6 * n + 2))]) (rest := [.int (r)]) X hG hH (c_X10_period l _ (En_l10 D cyf s.heap.size (s.heap.size + 75) tb (exs ks)) e2) ml_L_144 kv_X10_period (la_m X hH) rfl rfl ⟨Nat.le_of_ble_eq_true rfl, Nat.le_of_ble_eq_true rfl⟩ ⟨by omega, by omega⟩ rfl rfl hl.1 (Nat.le_of_ble_eq_true rfl) dL_law_1256 (st1 := [.int (r), .int (r)]) rfl (fun H hH => ?_)
  refine lv_icmp_eq (tgt := 1800) hx hb dL_law_1259 rfl (fun _ => ?_) (fun h => absurd rfl h)
  exact W.widen (by omega) (by omega) (kk tb ks μ2 g H ls ⟨hG, hH, hK.mv (ke1.tr ke2), hR2⟩ hl)
end CS
