/-! what the bytes of the methods decode to -/
theorem dX8_init_729 : decode cX8_init 729 = .ok (.iconst 3, 1) := by decide +kernel
theorem dX8_init_730 : decode cX8_init 730 = .ok (.newarray .char, 2) := by decide +kernel
theorem dX8_init_732 : decode cX8_init 732 = .ok (.dup, 1) := by decide +kernel
theorem dX8_init_733 : decode cX8_init 733 = .ok (.iconst 0, 1) := by decide +kernel
theorem dX8_init_734 : decode cX8_init 734 = .ok (.bipush 97, 2) := by decide +kernel
theorem dX8_init_736 : decode cX8_init 736 = .ok (.castore, 1) := by decide +kernel
theorem dX8_init_737 : decode cX8_init 737 = .ok (.dup, 1) := by decide +kernel
theorem dX8_init_738 : decode cX8_init 738 = .ok (.iconst 1, 1) := by decide +kernel
theorem dX8_init_739 : decode cX8_init 739 = .ok (.bipush 108, 2) := by decide +kernel
theorem dX8_init_741 : decode cX8_init 741 = .ok (.castore, 1) := by decide +kernel
theorem dX8_init_742 : decode cX8_init 742 = .ok (.dup, 1) := by decide +kernel
theorem dX8_init_743 : decode cX8_init 743 = .ok (.iconst 2, 1) := by decide +kernel
theorem dX8_init_744 : decode cX8_init 744 = .ok (.bipush 108, 2) := by decide +kernel
theorem dX8_init_746 : decode cX8_init 746 = .ok (.castore, 1) := by decide +kernel
theorem dX8_init_747 : decode cX8_init 747 = .ok (.putfield 96, 3) := by decide +kernel
theorem dX8_init_750 : decode cX8_init 750 = .ok (.aload_n 0, 1) := by decide +kernel
theorem dX8_init_751 : decode cX8_init 751 = .ok (.iconst 3, 1) := by decide +kernel
theorem dX8_init_752 : decode cX8_init 752 = .ok (.newarray .char, 2) := by decide +kernel
theorem dX8_init_754 : decode cX8_init 754 = .ok (.dup, 1) := by decide +kernel
theorem dX8_init_755 : decode cX8_init 755 = .ok (.iconst 0, 1) := by decide +kernel
theorem dX8_init_756 : decode cX8_init 756 = .ok (.bipush 109, 2) := by decide +kernel
theorem dX8_init_758 : decode cX8_init 758 = .ok (.castore, 1) := by decide +kernel
theorem dX8_init_759 : decode cX8_init 759 = .ok (.dup, 1) := by decide +kernel
theorem dX8_init_760 : decode cX8_init 760 = .ok (.iconst 1, 1) := by decide +kernel
theorem dX8_init_761 : decode cX8_init 761 = .ok (.bipush 105, 2) := by decide +kernel
theorem dX8_init_763 : decode cX8_init 763 = .ok (.castore, 1) := by decide +kernel
theorem dX8_init_764 : decode cX8_init 764 = .ok (.dup, 1) := by decide +kernel
theorem dX8_init_765 : decode cX8_init 765 = .ok (.iconst 2, 1) := by decide +kernel
theorem dX8_init_766 : decode cX8_init 766 = .ok (.bipush 110, 2) := by decide +kernel
theorem dX8_init_768 : decode cX8_init 768 = .ok (.castore, 1) := by decide +kernel
theorem dX8_init_769 : decode cX8_init 769 = .ok (.putfield 99, 3) := by decide +kernel
theorem dX8_init_772 : decode cX8_init 772 = .ok (.aload_n 0, 1) := by decide +kernel
theorem dX8_init_773 : decode cX8_init 773 = .ok (.iconst 3, 1) := by decide +kernel
theorem dX8_init_774 : decode cX8_init 774 = .ok (.newarray .char, 2) := by decide +kernel
theorem dX8_init_776 : decode cX8_init 776 = .ok (.dup, 1) := by decide +kernel
theorem dX8_init_777 : decode cX8_init 777 = .ok (.iconst 0, 1) := by decide +kernel
theorem dX8_init_778 : decode cX8_init 778 = .ok (.bipush 109, 2) := by decide +kernel
theorem dX8_init_780 : decode cX8_init 780 = .ok (.castore, 1) := by decide +kernel
theorem dX8_init_781 : decode cX8_init 781 = .ok (.dup, 1) := by decide +kernel
theorem dX8_init_782 : decode cX8_init 782 = .ok (.iconst 1, 1) := by decide +kernel
theorem dX8_init_783 : decode cX8_init 783 = .ok (.bipush 97, 2) := by decide +kernel
theorem dX8_init_785 : decode cX8_init 785 = .ok (.castore, 1) := by decide +kernel
theorem dX8_init_786 : decode cX8_init 786 = .ok (.dup, 1) := by decide +kernel
theorem dX8_init_787 : decode cX8_init 787 = .ok (.iconst 2, 1) := by decide +kernel
theorem dX8_init_788 : decode cX8_init 788 = .ok (.bipush 120, 2) := by decide +kernel
theorem dX8_init_790 : decode cX8_init 790 = .ok (.castore, 1) := by decide +kernel
theorem dX8_init_791 : decode cX8_init 791 = .ok (.putfield 102, 3) := by decide +kernel
theorem dX8_init_794 : decode cX8_init 794 = .ok (.aload_n 0, 1) := by decide +kernel
theorem dX8_init_795 : decode cX8_init 795 = .ok (.bipush 6, 2) := by decide +kernel
theorem dX8_init_797 : decode cX8_init 797 = .ok (.newarray .int, 2) := by decide +kernel
theorem dX8_init_799 : decode cX8_init 799 = .ok (.putfield 105, 3) := by decide +kernel
theorem dX8_init_802 : decode cX8_init 802 = .ok (.aload_n 0, 1) := by decide +kernel
theorem dX8_init_803 : decode cX8_init 803 = .ok (.bipush 6, 2) := by decide +kernel
theorem dX8_init_805 : decode cX8_init 805 = .ok (.newarray .int, 2) := by decide +kernel
theorem dX8_init_807 : decode cX8_init 807 = .ok (.putfield 108, 3) := by decide +kernel
theorem dX8_init_810 : decode cX8_init 810 = .ok (.aload_n 0, 1) := by decide +kernel
theorem dX8_init_811 : decode cX8_init 811 = .ok (.bipush 48, 2) := by decide +kernel
theorem dX8_init_813 : decode cX8_init 813 = .ok (.newarray .long, 2) := by decide +kernel
theorem dX8_init_815 : decode cX8_init 815 = .ok (.putfield 111, 3) := by decide +kernel
theorem dX8_init_818 : decode cX8_init 818 = .ok (.aload_n 0, 1) := by decide +kernel
theorem dX8_init_819 : decode cX8_init 819 = .ok (.bipush 24, 2) := by decide +kernel
theorem dX8_init_821 : decode cX8_init 821 = .ok (.newarray .int, 2) := by decide +kernel
theorem dX8_init_823 : decode cX8_init 823 = .ok (.putfield 115, 3) := by decide +kernel
theorem dX8_init_826 : decode cX8_init 826 = .ok (.aload_n 0, 1) := by decide +kernel
theorem dX8_init_827 : decode cX8_init 827 = .ok (.bipush 24, 2) := by decide +kernel
theorem dX8_init_829 : decode cX8_init 829 = .ok (.newarray .int, 2) := by decide +kernel
theorem dX8_init_831 : decode cX8_init 831 = .ok (.putfield 118, 3) := by decide +kernel
theorem dX8_init_834 : decode cX8_init 834 = .ok (.aload_n 0, 1) := by decide +kernel
theorem dX8_init_835 : decode cX8_init 835 = .ok (.bipush 10, 2) := by decide +kernel
theorem dX8_init_837 : decode cX8_init 837 = .ok (.newarray .int, 2) := by decide +kernel
theorem dX8_init_839 : decode cX8_init 839 = .ok (.putfield 121, 3) := by decide +kernel
theorem dX8_init_842 : decode cX8_init 842 = .ok (.aload_n 0, 1) := by decide +kernel
theorem dX8_init_843 : decode cX8_init 843 = .ok (.bipush 6, 2) := by decide +kernel
theorem dX8_init_845 : decode cX8_init 845 = .ok (.newarray .int, 2) := by decide +kernel
theorem dX8_init_847 : decode cX8_init 847 = .ok (.dup, 1) := by decide +kernel
theorem dX8_init_848 : decode cX8_init 848 = .ok (.iconst 0, 1) := by decide +kernel
theorem dX8_init_849 : decode cX8_init 849 = .ok (.iconst (-1), 1) := by decide +kernel
theorem dX8_init_850 : decode cX8_init 850 = .ok (.iastore, 1) := by decide +kernel
theorem dX8_init_851 : decode cX8_init 851 = .ok (.dup, 1) := by decide +kernel
theorem dX8_init_852 : decode cX8_init 852 = .ok (.iconst 1, 1) := by decide +kernel
theorem dX8_init_853 : decode cX8_init 853 = .ok (.iconst (-1), 1) := by decide +kernel
theorem dX8_init_854 : decode cX8_init 854 = .ok (.iastore, 1) := by decide +kernel
theorem dX8_init_855 : decode cX8_init 855 = .ok (.dup, 1) := by decide +kernel
theorem dX8_init_856 : decode cX8_init 856 = .ok (.iconst 2, 1) := by decide +kernel
theorem dX8_init_857 : decode cX8_init 857 = .ok (.iconst (-1), 1) := by decide +kernel
theorem dX8_init_858 : decode cX8_init 858 = .ok (.iastore, 1) := by decide +kernel
theorem dX8_init_859 : decode cX8_init 859 = .ok (.dup, 1) := by decide +kernel
theorem dX8_init_860 : decode cX8_init 860 = .ok (.iconst 3, 1) := by decide +kernel
theorem dX8_init_861 : decode cX8_init 861 = .ok (.iconst (-1), 1) := by decide +kernel
theorem dX8_init_862 : decode cX8_init 862 = .ok (.iastore, 1) := by decide +kernel
theorem dX8_init_863 : decode cX8_init 863 = .ok (.dup, 1) := by decide +kernel
theorem dX8_init_864 : decode cX8_init 864 = .ok (.iconst 4, 1) := by decide +kernel
theorem dX8_init_865 : decode cX8_init 865 = .ok (.iconst (-1), 1) := by decide +kernel
theorem dX8_init_866 : decode cX8_init 866 = .ok (.iastore, 1) := by decide +kernel
theorem dX8_init_867 : decode cX8_init 867 = .ok (.dup, 1) := by decide +kernel
theorem dX8_init_868 : decode cX8_init 868 = .ok (.iconst 5, 1) := by decide +kernel
theorem dX8_init_869 : decode cX8_init 869 = .ok (.iconst (-1), 1) := by decide +kernel
theorem dX8_init_870 : decode cX8_init 870 = .ok (.iastore, 1) := by decide +kernel
theorem dX8_init_871 : decode cX8_init 871 = .ok (.putfield 124, 3) := by decide +kernel
theorem dX8_init_874 : decode cX8_init 874 = .ok (.aload_n 0, 1) := by decide +kernel
theorem dX8_init_875 : decode cX8_init 875 = .ok (.bipush 6, 2) := by decide +kernel
theorem dX8_init_877 : decode cX8_init 877 = .ok (.newarray .int, 2) := by decide +kernel
theorem dX8_init_879 : decode cX8_init 879 = .ok (.putfield 127, 3) := by decide +kernel
theorem dX8_init_882 : decode cX8_init 882 = .ok (.aload_n 0, 1) := by decide +kernel
theorem dX8_init_883 : decode cX8_init 883 = .ok (.sipush 3200, 3) := by decide +kernel
theorem dX8_init_886 : decode cX8_init 886 = .ok (.newarray .int, 2) := by decide +kernel
theorem dX8_init_888 : decode cX8_init 888 = .ok (.putfield 130, 3) := by decide +kernel
theorem dX8_init_891 : decode cX8_init 891 = .ok (.aload_n 0, 1) := by decide +kernel
theorem dX8_init_892 : decode cX8_init 892 = .ok (.sipush 163, 3) := by decide +kernel
theorem dX8_init_895 : decode cX8_init 895 = .ok (.newarray .int, 2) := by decide +kernel
theorem dX8_init_897 : decode cX8_init 897 = .ok (.putfield 133, 3) := by decide +kernel
theorem dX8_init_900 : decode cX8_init 900 = .ok (.aload_n 0, 1) := by decide +kernel
theorem dX8_init_901 : decode cX8_init 901 = .ok (.bipush 42, 2) := by decide +kernel
theorem dX8_init_903 : decode cX8_init 903 = .ok (.newarray .int, 2) := by decide +kernel
theorem dX8_init_905 : decode cX8_init 905 = .ok (.putfield 136, 3) := by decide +kernel
theorem dX8_init_908 : decode cX8_init 908 = .ok (.aload_n 0, 1) := by decide +kernel
theorem dX8_init_909 : decode cX8_init 909 = .ok (.bipush 8, 2) := by decide +kernel
theorem dX8_init_911 : decode cX8_init 911 = .ok (.newarray .long, 2) := by decide +kernel
theorem dX8_init_913 : decode cX8_init 913 = .ok (.putfield 139, 3) := by decide +kernel
theorem dX8_init_916 : decode cX8_init 916 = .ok (.aload_n 0, 1) := by decide +kernel
theorem dX8_init_917 : decode cX8_init 917 = .ok (.iconst 5, 1) := by decide +kernel
theorem dX8_init_918 : decode cX8_init 918 = .ok (.newarray .int, 2) := by decide +kernel
theorem dX8_init_920 : decode cX8_init 920 = .ok (.putfield 142, 3) := by decide +kernel
theorem dX8_init_923 : decode cX8_init 923 = .ok (.aload_n 0, 1) := by decide +kernel
theorem dX8_init_924 : decode cX8_init 924 = .ok (.iconst 5, 1) := by decide +kernel
theorem dX8_init_925 : decode cX8_init 925 = .ok (.newarray .int, 2) := by decide +kernel
theorem dX8_init_927 : decode cX8_init 927 = .ok (.putfield 145, 3) := by decide +kernel
theorem dX8_init_930 : decode cX8_init 930 = .ok (.aload_n 0, 1) := by decide +kernel
theorem dX8_init_931 : decode cX8_init 931 = .ok (.bipush 48, 2) := by decide +kernel
theorem dX8_init_933 : decode cX8_init 933 = .ok (.newarray .int, 2) := by decide +kernel
theorem dX8_init_935 : decode cX8_init 935 = .ok (.putfield 148, 3) := by decide +kernel
theorem dX8_init_938 : decode cX8_init 938 = .ok (.aload_n 0, 1) := by decide +kernel
theorem dX8_init_939 : decode cX8_init 939 = .ok (.sipush 3100, 3) := by decide +kernel
theorem dX8_init_942 : decode cX8_init 942 = .ok (.newarray .boolean, 2) := by decide +kernel
theorem dX8_init_944 : decode cX8_init 944 = .ok (.putfield 151, 3) := by decide +kernel
theorem dX8_init_947 : decode cX8_init 947 = .ok (.aload_n 0, 1) := by decide +kernel
theorem dX8_init_948 : decode cX8_init 948 = .ok (.bipush 100, 2) := by decide +kernel
theorem dX8_init_950 : decode cX8_init 950 = .ok (.newarray .boolean, 2) := by decide +kernel
theorem dX8_init_952 : decode cX8_init 952 = .ok (.putfield 155, 3) := by decide +kernel
theorem dX8_init_955 : decode cX8_init 955 = .ok (.aload_n 0, 1) := by decide +kernel
theorem dX8_init_956 : decode cX8_init 956 = .ok (.sipush 3260, 3) := by decide +kernel
theorem dX8_init_959 : decode cX8_init 959 = .ok (.newarray .int, 2) := by decide +kernel
theorem dX8_init_961 : decode cX8_init 961 = .ok (.putfield 158, 3) := by decide +kernel
theorem dX8_init_964 : decode cX8_init 964 = .ok (.aload_n 0, 1) := by decide +kernel
theorem dX8_init_965 : decode cX8_init 965 = .ok (.lconst 1, 1) := by decide +kernel
theorem dX8_init_966 : decode cX8_init 966 = .ok (.putfield 161, 3) := by decide +kernel
theorem dX8_init_969 : decode cX8_init 969 = .ok (.aload_n 0, 1) := by decide +kernel
theorem dX8_init_970 : decode cX8_init 970 = .ok (.iconst 5, 1) := by decide +kernel
theorem dX8_init_971 : decode cX8_init 971 = .ok (.newarray .char, 2) := by decide +kernel
theorem dX8_init_973 : decode cX8_init 973 = .ok (.dup, 1) := by decide +kernel
theorem dX8_init_974 : decode cX8_init 974 = .ok (.iconst 0, 1) := by decide +kernel
theorem dX8_init_975 : decode cX8_init 975 = .ok (.bipush 102, 2) := by decide +kernel
theorem dX8_init_977 : decode cX8_init 977 = .ok (.castore, 1) := by decide +kernel
theorem dX8_init_978 : decode cX8_init 978 = .ok (.dup, 1) := by decide +kernel
theorem dX8_init_979 : decode cX8_init 979 = .ok (.iconst 1, 1) := by decide +kernel
theorem dX8_init_980 : decode cX8_init 980 = .ok (.bipush 105, 2) := by decide +kernel
theorem dX8_init_982 : decode cX8_init 982 = .ok (.castore, 1) := by decide +kernel
theorem dX8_init_983 : decode cX8_init 983 = .ok (.dup, 1) := by decide +kernel
theorem dX8_init_984 : decode cX8_init 984 = .ok (.iconst 2, 1) := by decide +kernel
theorem dX8_init_985 : decode cX8_init 985 = .ok (.bipush 114, 2) := by decide +kernel
theorem dX8_init_987 : decode cX8_init 987 = .ok (.castore, 1) := by decide +kernel
theorem dX8_init_988 : decode cX8_init 988 = .ok (.dup, 1) := by decide +kernel
theorem dX8_init_989 : decode cX8_init 989 = .ok (.iconst 3, 1) := by decide +kernel
theorem dX8_init_990 : decode cX8_init 990 = .ok (.bipush 115, 2) := by decide +kernel
theorem dX8_init_992 : decode cX8_init 992 = .ok (.castore, 1) := by decide +kernel
theorem dX8_init_993 : decode cX8_init 993 = .ok (.dup, 1) := by decide +kernel
theorem dX8_init_994 : decode cX8_init 994 = .ok (.iconst 4, 1) := by decide +kernel
theorem dX8_init_995 : decode cX8_init 995 = .ok (.bipush 116, 2) := by decide +kernel
theorem dX8_init_997 : decode cX8_init 997 = .ok (.castore, 1) := by decide +kernel
theorem dX8_init_998 : decode cX8_init 998 = .ok (.putfield 165, 3) := by decide +kernel
theorem dX8_init_1001 : decode cX8_init 1001 = .ok (.aload_n 0, 1) := by decide +kernel
theorem dX8_init_1002 : decode cX8_init 1002 = .ok (.iconst 4, 1) := by decide +kernel
theorem dX8_init_1003 : decode cX8_init 1003 = .ok (.newarray .char, 2) := by decide +kernel
theorem dX8_init_1005 : decode cX8_init 1005 = .ok (.dup, 1) := by decide +kernel
theorem dX8_init_1006 : decode cX8_init 1006 = .ok (.iconst 0, 1) := by decide +kernel
theorem dX8_init_1007 : decode cX8_init 1007 = .ok (.bipush 108, 2) := by decide +kernel
theorem dX8_init_1009 : decode cX8_init 1009 = .ok (.castore, 1) := by decide +kernel
theorem dX8_init_1010 : decode cX8_init 1010 = .ok (.dup, 1) := by decide +kernel
theorem dX8_init_1011 : decode cX8_init 1011 = .ok (.iconst 1, 1) := by decide +kernel
theorem dX8_init_1012 : decode cX8_init 1012 = .ok (.bipush 97, 2) := by decide +kernel
theorem dX8_init_1014 : decode cX8_init 1014 = .ok (.castore, 1) := by decide +kernel
theorem dX8_init_1015 : decode cX8_init 1015 = .ok (.dup, 1) := by decide +kernel
theorem dX8_init_1016 : decode cX8_init 1016 = .ok (.iconst 2, 1) := by decide +kernel
theorem dX8_init_1017 : decode cX8_init 1017 = .ok (.bipush 115, 2) := by decide +kernel
theorem dX8_init_1019 : decode cX8_init 1019 = .ok (.castore, 1) := by decide +kernel
theorem dX8_init_1020 : decode cX8_init 1020 = .ok (.dup, 1) := by decide +kernel
theorem dX8_init_1021 : decode cX8_init 1021 = .ok (.iconst 3, 1) := by decide +kernel
theorem dX8_init_1022 : decode cX8_init 1022 = .ok (.bipush 116, 2) := by decide +kernel
theorem dX8_init_1024 : decode cX8_init 1024 = .ok (.castore, 1) := by decide +kernel
theorem dX8_init_1025 : decode cX8_init 1025 = .ok (.putfield 168, 3) := by decide +kernel
theorem dX8_init_1028 : decode cX8_init 1028 = .ok (.aload_n 0, 1) := by decide +kernel
theorem dX8_init_1029 : decode cX8_init 1029 = .ok (.iconst 5, 1) := by decide +kernel
theorem dX8_init_1030 : decode cX8_init 1030 = .ok (.newarray .char, 2) := by decide +kernel
theorem dX8_init_1032 : decode cX8_init 1032 = .ok (.dup, 1) := by decide +kernel
theorem dX8_init_1033 : decode cX8_init 1033 = .ok (.iconst 0, 1) := by decide +kernel
theorem dX8_init_1034 : decode cX8_init 1034 = .ok (.bipush 111, 2) := by decide +kernel
theorem dX8_init_1036 : decode cX8_init 1036 = .ok (.castore, 1) := by decide +kernel
theorem dX8_init_1037 : decode cX8_init 1037 = .ok (.dup, 1) := by decide +kernel
theorem dX8_init_1038 : decode cX8_init 1038 = .ok (.iconst 1, 1) := by decide +kernel
theorem dX8_init_1039 : decode cX8_init 1039 = .ok (.bipush 102, 2) := by decide +kernel
theorem dX8_init_1041 : decode cX8_init 1041 = .ok (.castore, 1) := by decide +kernel
theorem dX8_init_1042 : decode cX8_init 1042 = .ok (.dup, 1) := by decide +kernel
theorem dX8_init_1043 : decode cX8_init 1043 = .ok (.iconst 2, 1) := by decide +kernel
theorem dX8_init_1044 : decode cX8_init 1044 = .ok (.bipush 116, 2) := by decide +kernel
theorem dX8_init_1046 : decode cX8_init 1046 = .ok (.castore, 1) := by decide +kernel
theorem dX8_init_1047 : decode cX8_init 1047 = .ok (.dup, 1) := by decide +kernel
theorem dX8_init_1048 : decode cX8_init 1048 = .ok (.iconst 3, 1) := by decide +kernel
theorem dX8_init_1049 : decode cX8_init 1049 = .ok (.bipush 101, 2) := by decide +kernel
theorem dX8_init_1051 : decode cX8_init 1051 = .ok (.castore, 1) := by decide +kernel
theorem dX8_init_1052 : decode cX8_init 1052 = .ok (.dup, 1) := by decide +kernel
theorem dX8_init_1053 : decode cX8_init 1053 = .ok (.iconst 4, 1) := by decide +kernel
theorem dX8_init_1054 : decode cX8_init 1054 = .ok (.bipush 110, 2) := by decide +kernel
theorem dX8_init_1056 : decode cX8_init 1056 = .ok (.castore, 1) := by decide +kernel
theorem dX8_init_1057 : decode cX8_init 1057 = .ok (.putfield 171, 3) := by decide +kernel
theorem dX8_init_1060 : decode cX8_init 1060 = .ok (.aload_n 0, 1) := by decide +kernel
theorem dX8_init_1061 : decode cX8_init 1061 = .ok (.iconst 5, 1) := by decide +kernel
theorem dX8_init_1062 : decode cX8_init 1062 = .ok (.newarray .char, 2) := by decide +kernel
theorem dX8_init_1064 : decode cX8_init 1064 = .ok (.dup, 1) := by decide +kernel
theorem dX8_init_1065 : decode cX8_init 1065 = .ok (.iconst 0, 1) := by decide +kernel
theorem dX8_init_1066 : decode cX8_init 1066 = .ok (.bipush 116, 2) := by decide +kernel
theorem dX8_init_1068 : decode cX8_init 1068 = .ok (.castore, 1) := by decide +kernel
theorem dX8_init_1069 : decode cX8_init 1069 = .ok (.dup, 1) := by decide +kernel
theorem dX8_init_1070 : decode cX8_init 1070 = .ok (.iconst 1, 1) := by decide +kernel
theorem dX8_init_1071 : decode cX8_init 1071 = .ok (.bipush 111, 2) := by decide +kernel
theorem dX8_init_1073 : decode cX8_init 1073 = .ok (.castore, 1) := by decide +kernel
theorem dX8_init_1074 : decode cX8_init 1074 = .ok (.dup, 1) := by decide +kernel
theorem dX8_init_1075 : decode cX8_init 1075 = .ok (.iconst 2, 1) := by decide +kernel
theorem dX8_init_1076 : decode cX8_init 1076 = .ok (.bipush 116, 2) := by decide +kernel
theorem dX8_init_1078 : decode cX8_init 1078 = .ok (.castore, 1) := by decide +kernel
theorem dX8_init_1079 : decode cX8_init 1079 = .ok (.dup, 1) := by decide +kernel
theorem dX8_init_1080 : decode cX8_init 1080 = .ok (.iconst 3, 1) := by decide +kernel
theorem dX8_init_1081 : decode cX8_init 1081 = .ok (.bipush 97, 2) := by decide +kernel
theorem dX8_init_1083 : decode cX8_init 1083 = .ok (.castore, 1) := by decide +kernel
theorem dX8_init_1084 : decode cX8_init 1084 = .ok (.dup, 1) := by decide +kernel
theorem dX8_init_1085 : decode cX8_init 1085 = .ok (.iconst 4, 1) := by decide +kernel
theorem dX8_init_1086 : decode cX8_init 1086 = .ok (.bipush 108, 2) := by decide +kernel
theorem dX8_init_1088 : decode cX8_init 1088 = .ok (.castore, 1) := by decide +kernel
theorem dX8_init_1089 : decode cX8_init 1089 = .ok (.putfield 174, 3) := by decide +kernel
theorem dX8_init_1092 : decode cX8_init 1092 = .ok (.aload_n 0, 1) := by decide +kernel
theorem dX8_init_1093 : decode cX8_init 1093 = .ok (.iconst 4, 1) := by decide +kernel
theorem dX8_init_1094 : decode cX8_init 1094 = .ok (.newarray .char, 2) := by decide +kernel
theorem dX8_init_1096 : decode cX8_init 1096 = .ok (.dup, 1) := by decide +kernel
theorem dX8_init_1097 : decode cX8_init 1097 = .ok (.iconst 0, 1) := by decide +kernel
theorem dX8_init_1098 : decode cX8_init 1098 = .ok (.bipush 109, 2) := by decide +kernel
theorem dX8_init_1100 : decode cX8_init 1100 = .ok (.castore, 1) := by decide +kernel
theorem dX8_init_1101 : decode cX8_init 1101 = .ok (.dup, 1) := by decide +kernel
theorem dX8_init_1102 : decode cX8_init 1102 = .ok (.iconst 1, 1) := by decide +kernel
theorem dX8_init_1103 : decode cX8_init 1103 = .ok (.bipush 111, 2) := by decide +kernel
theorem dX8_init_1105 : decode cX8_init 1105 = .ok (.castore, 1) := by decide +kernel
theorem dX8_init_1106 : decode cX8_init 1106 = .ok (.dup, 1) := by decide +kernel
theorem dX8_init_1107 : decode cX8_init 1107 = .ok (.iconst 2, 1) := by decide +kernel
theorem dX8_init_1108 : decode cX8_init 1108 = .ok (.bipush 115, 2) := by decide +kernel
theorem dX8_init_1110 : decode cX8_init 1110 = .ok (.castore, 1) := by decide +kernel
theorem dX8_init_1111 : decode cX8_init 1111 = .ok (.dup, 1) := by decide +kernel
theorem dX8_init_1112 : decode cX8_init 1112 = .ok (.iconst 3, 1) := by decide +kernel
theorem dX8_init_1113 : decode cX8_init 1113 = .ok (.bipush 116, 2) := by decide +kernel
theorem dX8_init_1115 : decode cX8_init 1115 = .ok (.castore, 1) := by decide +kernel
theorem dX8_init_1116 : decode cX8_init 1116 = .ok (.putfield 177, 3) := by decide +kernel
theorem dX8_init_1119 : decode cX8_init 1119 = .ok (.aload_n 0, 1) := by decide +kernel
theorem dX8_init_1120 : decode cX8_init 1120 = .ok (.iconst 5, 1) := by decide +kernel
theorem dX8_init_1121 : decode cX8_init 1121 = .ok (.newarray .char, 2) := by decide +kernel
theorem dX8_init_1123 : decode cX8_init 1123 = .ok (.dup, 1) := by decide +kernel
theorem dX8_init_1124 : decode cX8_init 1124 = .ok (.iconst 0, 1) := by decide +kernel
theorem dX8_init_1125 : decode cX8_init 1125 = .ok (.bipush 108, 2) := by decide +kernel
theorem dX8_init_1127 : decode cX8_init 1127 = .ok (.castore, 1) := by decide +kernel
theorem dX8_init_1128 : decode cX8_init 1128 = .ok (.dup, 1) := by decide +kernel
theorem dX8_init_1129 : decode cX8_init 1129 = .ok (.iconst 1, 1) := by decide +kernel
theorem dX8_init_1130 : decode cX8_init 1130 = .ok (.bipush 101, 2) := by decide +kernel
theorem dX8_init_1132 : decode cX8_init 1132 = .ok (.castore, 1) := by decide +kernel
theorem dX8_init_1133 : decode cX8_init 1133 = .ok (.dup, 1) := by decide +kernel
theorem dX8_init_1134 : decode cX8_init 1134 = .ok (.iconst 2, 1) := by decide +kernel
theorem dX8_init_1135 : decode cX8_init 1135 = .ok (.bipush 97, 2) := by decide +kernel
theorem dX8_init_1137 : decode cX8_init 1137 = .ok (.castore, 1) := by decide +kernel
theorem dX8_init_1138 : decode cX8_init 1138 = .ok (.dup, 1) := by decide +kernel
theorem dX8_init_1139 : decode cX8_init 1139 = .ok (.iconst 3, 1) := by decide +kernel
theorem dX8_init_1140 : decode cX8_init 1140 = .ok (.bipush 115, 2) := by decide +kernel
theorem dX8_init_1142 : decode cX8_init 1142 = .ok (.castore, 1) := by decide +kernel
theorem dX8_init_1143 : decode cX8_init 1143 = .ok (.dup, 1) := by decide +kernel
theorem dX8_init_1144 : decode cX8_init 1144 = .ok (.iconst 4, 1) := by decide +kernel
theorem dX8_init_1145 : decode cX8_init 1145 = .ok (.bipush 116, 2) := by decide +kernel
theorem dX8_init_1147 : decode cX8_init 1147 = .ok (.castore, 1) := by decide +kernel
theorem dX8_init_1148 : decode cX8_init 1148 = .ok (.putfield 180, 3) := by decide +kernel
theorem dX8_init_1151 : decode cX8_init 1151 = .ok (.aload_n 0, 1) := by decide +kernel
theorem dX8_init_1152 : decode cX8_init 1152 = .ok (.iconst 3, 1) := by decide +kernel
theorem dX8_init_1153 : decode cX8_init 1153 = .ok (.newarray .char, 2) := by decide +kernel
theorem dX8_init_1155 : decode cX8_init 1155 = .ok (.dup, 1) := by decide +kernel
theorem dX8_init_1156 : decode cX8_init 1156 = .ok (.iconst 0, 1) := by decide +kernel
theorem dX8_init_1157 : decode cX8_init 1157 = .ok (.bipush 110, 2) := by decide +kernel
theorem dX8_init_1159 : decode cX8_init 1159 = .ok (.castore, 1) := by decide +kernel
theorem dX8_init_1160 : decode cX8_init 1160 = .ok (.dup, 1) := by decide +kernel
theorem dX8_init_1161 : decode cX8_init 1161 = .ok (.iconst 1, 1) := by decide +kernel
theorem dX8_init_1162 : decode cX8_init 1162 = .ok (.bipush 111, 2) := by decide +kernel
theorem dX8_init_1164 : decode cX8_init 1164 = .ok (.castore, 1) := by decide +kernel
theorem dX8_init_1165 : decode cX8_init 1165 = .ok (.dup, 1) := by decide +kernel
theorem dX8_init_1166 : decode cX8_init 1166 = .ok (.iconst 2, 1) := by decide +kernel
theorem dX8_init_1167 : decode cX8_init 1167 = .ok (.bipush 116, 2) := by decide +kernel
theorem dX8_init_1169 : decode cX8_init 1169 = .ok (.castore, 1) := by decide +kernel
theorem dX8_init_1170 : decode cX8_init 1170 = .ok (.putfield 183, 3) := by decide +kernel
theorem dX8_init_1173 : decode cX8_init 1173 = .ok (.aload_n 0, 1) := by decide +kernel
theorem dX8_init_1174 : decode cX8_init 1174 = .ok (.iconst 3, 1) := by decide +kernel
theorem dX8_init_1175 : decode cX8_init 1175 = .ok (.newarray .char, 2) := by decide +kernel
theorem dX8_init_1177 : decode cX8_init 1177 = .ok (.dup, 1) := by decide +kernel
theorem dX8_init_1178 : decode cX8_init 1178 = .ok (.iconst 0, 1) := by decide +kernel
theorem dX8_init_1179 : decode cX8_init 1179 = .ok (.bipush 97, 2) := by decide +kernel
theorem dX8_init_1181 : decode cX8_init 1181 = .ok (.castore, 1) := by decide +kernel
theorem dX8_init_1182 : decode cX8_init 1182 = .ok (.dup, 1) := by decide +kernel
theorem dX8_init_1183 : decode cX8_init 1183 = .ok (.iconst 1, 1) := by decide +kernel
theorem dX8_init_1184 : decode cX8_init 1184 = .ok (.bipush 110, 2) := by decide +kernel
theorem dX8_init_1186 : decode cX8_init 1186 = .ok (.castore, 1) := by decide +kernel
theorem dX8_init_1187 : decode cX8_init 1187 = .ok (.dup, 1) := by decide +kernel
theorem dX8_init_1188 : decode cX8_init 1188 = .ok (.iconst 2, 1) := by decide +kernel
theorem dX8_init_1189 : decode cX8_init 1189 = .ok (.bipush 100, 2) := by decide +kernel
theorem dX8_init_1191 : decode cX8_init 1191 = .ok (.castore, 1) := by decide +kernel
theorem dX8_init_1192 : decode cX8_init 1192 = .ok (.putfield 186, 3) := by decide +kernel
theorem dX8_init_1195 : decode cX8_init 1195 = .ok (.aload_n 0, 1) := by decide +kernel
theorem dX8_init_1196 : decode cX8_init 1196 = .ok (.iconst 2, 1) := by decide +kernel
theorem dX8_init_1197 : decode cX8_init 1197 = .ok (.newarray .char, 2) := by decide +kernel
theorem dX8_init_1199 : decode cX8_init 1199 = .ok (.dup, 1) := by decide +kernel
theorem dX8_init_1200 : decode cX8_init 1200 = .ok (.iconst 0, 1) := by decide +kernel
theorem dX8_init_1201 : decode cX8_init 1201 = .ok (.bipush 111, 2) := by decide +kernel
theorem dX8_init_1203 : decode cX8_init 1203 = .ok (.castore, 1) := by decide +kernel
theorem dX8_init_1204 : decode cX8_init 1204 = .ok (.dup, 1) := by decide +kernel
theorem dX8_init_1205 : decode cX8_init 1205 = .ok (.iconst 1, 1) := by decide +kernel
theorem dX8_init_1206 : decode cX8_init 1206 = .ok (.bipush 114, 2) := by decide +kernel
theorem dX8_init_1208 : decode cX8_init 1208 = .ok (.castore, 1) := by decide +kernel
theorem dX8_init_1209 : decode cX8_init 1209 = .ok (.putfield 189, 3) := by decide +kernel
theorem dX8_init_1212 : decode cX8_init 1212 = .ok (.aload_n 0, 1) := by decide +kernel
theorem dX8_init_1213 : decode cX8_init 1213 = .ok (.iconst 3, 1) := by decide +kernel
theorem dX8_init_1214 : decode cX8_init 1214 = .ok (.newarray .char, 2) := by decide +kernel
theorem dX8_init_1216 : decode cX8_init 1216 = .ok (.dup, 1) := by decide +kernel
theorem dX8_init_1217 : decode cX8_init 1217 = .ok (.iconst 0, 1) := by decide +kernel
theorem dX8_init_1218 : decode cX8_init 1218 = .ok (.bipush 97, 2) := by decide +kernel
theorem dX8_init_1220 : decode cX8_init 1220 = .ok (.castore, 1) := by decide +kernel
theorem dX8_init_1221 : decode cX8_init 1221 = .ok (.dup, 1) := by decide +kernel
theorem dX8_init_1222 : decode cX8_init 1222 = .ok (.iconst 1, 1) := by decide +kernel
theorem dX8_init_1223 : decode cX8_init 1223 = .ok (.bipush 108, 2) := by decide +kernel
theorem dX8_init_1225 : decode cX8_init 1225 = .ok (.castore, 1) := by decide +kernel
theorem dX8_init_1226 : decode cX8_init 1226 = .ok (.dup, 1) := by decide +kernel
theorem dX8_init_1227 : decode cX8_init 1227 = .ok (.iconst 2, 1) := by decide +kernel
theorem dX8_init_1228 : decode cX8_init 1228 = .ok (.bipush 108, 2) := by decide +kernel
theorem dX8_init_1230 : decode cX8_init 1230 = .ok (.castore, 1) := by decide +kernel
theorem dX8_init_1231 : decode cX8_init 1231 = .ok (.putfield 192, 3) := by decide +kernel
theorem dX8_init_1234 : decode cX8_init 1234 = .ok (.aload_n 0, 1) := by decide +kernel
theorem dX8_init_1235 : decode cX8_init 1235 = .ok (.iconst 3, 1) := by decide +kernel
theorem dX8_init_1236 : decode cX8_init 1236 = .ok (.newarray .char, 2) := by decide +kernel
theorem dX8_init_1238 : decode cX8_init 1238 = .ok (.dup, 1) := by decide +kernel
theorem dX8_init_1239 : decode cX8_init 1239 = .ok (.iconst 0, 1) := by decide +kernel
theorem dX8_init_1240 : decode cX8_init 1240 = .ok (.bipush 109, 2) := by decide +kernel
theorem dX8_init_1242 : decode cX8_init 1242 = .ok (.castore, 1) := by decide +kernel
theorem dX8_init_1243 : decode cX8_init 1243 = .ok (.dup, 1) := by decide +kernel
theorem dX8_init_1244 : decode cX8_init 1244 = .ok (.iconst 1, 1) := by decide +kernel
theorem dX8_init_1245 : decode cX8_init 1245 = .ok (.bipush 105, 2) := by decide +kernel
theorem dX8_init_1247 : decode cX8_init 1247 = .ok (.castore, 1) := by decide +kernel
theorem dX8_init_1248 : decode cX8_init 1248 = .ok (.dup, 1) := by decide +kernel
theorem dX8_init_1249 : decode cX8_init 1249 = .ok (.iconst 2, 1) := by decide +kernel
theorem dX8_init_1250 : decode cX8_init 1250 = .ok (.bipush 110, 2) := by decide +kernel
theorem dX8_init_1252 : decode cX8_init 1252 = .ok (.castore, 1) := by decide +kernel
theorem dX8_init_1253 : decode cX8_init 1253 = .ok (.putfield 195, 3) := by decide +kernel
theorem dX8_init_1256 : decode cX8_init 1256 = .ok (.aload_n 0, 1) := by decide +kernel
theorem dX8_init_1257 : decode cX8_init 1257 = .ok (.iconst 3, 1) := by decide +kernel
theorem dX8_init_1258 : decode cX8_init 1258 = .ok (.newarray .char, 2) := by decide +kernel
theorem dX8_init_1260 : decode cX8_init 1260 = .ok (.dup, 1) := by decide +kernel
theorem dX8_init_1261 : decode cX8_init 1261 = .ok (.iconst 0, 1) := by decide +kernel
theorem dX8_init_1262 : decode cX8_init 1262 = .ok (.bipush 109, 2) := by decide +kernel
theorem dX8_init_1264 : decode cX8_init 1264 = .ok (.castore, 1) := by decide +kernel
theorem dX8_init_1265 : decode cX8_init 1265 = .ok (.dup, 1) := by decide +kernel
theorem dX8_init_1266 : decode cX8_init 1266 = .ok (.iconst 1, 1) := by decide +kernel
theorem dX8_init_1267 : decode cX8_init 1267 = .ok (.bipush 97, 2) := by decide +kernel
theorem dX8_init_1269 : decode cX8_init 1269 = .ok (.castore, 1) := by decide +kernel
theorem dX8_init_1270 : decode cX8_init 1270 = .ok (.dup, 1) := by decide +kernel
theorem dX8_init_1271 : decode cX8_init 1271 = .ok (.iconst 2, 1) := by decide +kernel
theorem dX8_init_1272 : decode cX8_init 1272 = .ok (.bipush 120, 2) := by decide +kernel
theorem dX8_init_1274 : decode cX8_init 1274 = .ok (.castore, 1) := by decide +kernel
theorem dX8_init_1275 : decode cX8_init 1275 = .ok (.putfield 198, 3) := by decide +kernel
theorem dX8_init_1278 : decode cX8_init 1278 = .ok (.aload_n 0, 1) := by decide +kernel
theorem dX8_init_1279 : decode cX8_init 1279 = .ok (.iconst 5, 1) := by decide +kernel
theorem dX8_init_1280 : decode cX8_init 1280 = .ok (.newarray .char, 2) := by decide +kernel
theorem dX8_init_1282 : decode cX8_init 1282 = .ok (.dup, 1) := by decide +kernel
theorem dX8_init_1283 : decode cX8_init 1283 = .ok (.iconst 0, 1) := by decide +kernel
theorem dX8_init_1284 : decode cX8_init 1284 = .ok (.bipush 109, 2) := by decide +kernel
theorem dX8_init_1286 : decode cX8_init 1286 = .ok (.castore, 1) := by decide +kernel
theorem dX8_init_1287 : decode cX8_init 1287 = .ok (.dup, 1) := by decide +kernel
theorem dX8_init_1288 : decode cX8_init 1288 = .ok (.iconst 1, 1) := by decide +kernel
theorem dX8_init_1289 : decode cX8_init 1289 = .ok (.bipush 105, 2) := by decide +kernel
theorem dX8_init_1291 : decode cX8_init 1291 = .ok (.castore, 1) := by decide +kernel
theorem dX8_init_1292 : decode cX8_init 1292 = .ok (.dup, 1) := by decide +kernel
theorem dX8_init_1293 : decode cX8_init 1293 = .ok (.iconst 2, 1) := by decide +kernel
theorem dX8_init_1294 : decode cX8_init 1294 = .ok (.bipush 110, 2) := by decide +kernel
theorem dX8_init_1296 : decode cX8_init 1296 = .ok (.castore, 1) := by decide +kernel
theorem dX8_init_1297 : decode cX8_init 1297 = .ok (.dup, 1) := by decide +kernel
theorem dX8_init_1298 : decode cX8_init 1298 = .ok (.iconst 3, 1) := by decide +kernel
theorem dX8_init_1299 : decode cX8_init 1299 = .ok (.bipush 100, 2) := by decide +kernel
theorem dX8_init_1301 : decode cX8_init 1301 = .ok (.castore, 1) := by decide +kernel
theorem dX8_init_1302 : decode cX8_init 1302 = .ok (.dup, 1) := by decide +kernel
theorem dX8_init_1303 : decode cX8_init 1303 = .ok (.iconst 4, 1) := by decide +kernel
theorem dX8_init_1304 : decode cX8_init 1304 = .ok (.bipush 115, 2) := by decide +kernel
theorem dX8_init_1306 : decode cX8_init 1306 = .ok (.castore, 1) := by decide +kernel
theorem dX8_init_1307 : decode cX8_init 1307 = .ok (.putfield 201, 3) := by decide +kernel
theorem dX8_init_1310 : decode cX8_init 1310 = .ok (.aload_n 0, 1) := by decide +kernel
theorem dX8_init_1311 : decode cX8_init 1311 = .ok (.iconst 3, 1) := by decide +kernel
theorem dX8_init_1312 : decode cX8_init 1312 = .ok (.newarray .char, 2) := by decide +kernel
theorem dX8_init_1314 : decode cX8_init 1314 = .ok (.dup, 1) := by decide +kernel
theorem dX8_init_1315 : decode cX8_init 1315 = .ok (.iconst 0, 1) := by decide +kernel
theorem dX8_init_1316 : decode cX8_init 1316 = .ok (.bipush 97, 2) := by decide +kernel
theorem dX8_init_1318 : decode cX8_init 1318 = .ok (.castore, 1) := by decide +kernel
theorem dX8_init_1319 : decode cX8_init 1319 = .ok (.dup, 1) := by decide +kernel
theorem dX8_init_1320 : decode cX8_init 1320 = .ok (.iconst 1, 1) := by decide +kernel
theorem dX8_init_1321 : decode cX8_init 1321 = .ok (.bipush 103, 2) := by decide +kernel
theorem dX8_init_1323 : decode cX8_init 1323 = .ok (.castore, 1) := by decide +kernel
theorem dX8_init_1324 : decode cX8_init 1324 = .ok (.dup, 1) := by decide +kernel
theorem dX8_init_1325 : decode cX8_init 1325 = .ok (.iconst 2, 1) := by decide +kernel
theorem dX8_init_1326 : decode cX8_init 1326 = .ok (.bipush 101, 2) := by decide +kernel
theorem dX8_init_1328 : decode cX8_init 1328 = .ok (.castore, 1) := by decide +kernel
theorem dX8_init_1329 : decode cX8_init 1329 = .ok (.putfield 204, 3) := by decide +kernel
theorem dX8_init_1332 : decode cX8_init 1332 = .ok (.aload_n 0, 1) := by decide +kernel
theorem dX8_init_1333 : decode cX8_init 1333 = .ok (.iconst 5, 1) := by decide +kernel
theorem dX8_init_1334 : decode cX8_init 1334 = .ok (.newarray .char, 2) := by decide +kernel
theorem dX8_init_1336 : decode cX8_init 1336 = .ok (.dup, 1) := by decide +kernel
theorem dX8_init_1337 : decode cX8_init 1337 = .ok (.iconst 0, 1) := by decide +kernel
theorem dX8_init_1338 : decode cX8_init 1338 = .ok (.bipush 115, 2) := by decide +kernel
theorem dX8_init_1340 : decode cX8_init 1340 = .ok (.castore, 1) := by decide +kernel
theorem dX8_init_1341 : decode cX8_init 1341 = .ok (.dup, 1) := by decide +kernel
theorem dX8_init_1342 : decode cX8_init 1342 = .ok (.iconst 1, 1) := by decide +kernel
theorem dX8_init_1343 : decode cX8_init 1343 = .ok (.bipush 105, 2) := by decide +kernel
theorem dX8_init_1345 : decode cX8_init 1345 = .ok (.castore, 1) := by decide +kernel
theorem dX8_init_1346 : decode cX8_init 1346 = .ok (.dup, 1) := by decide +kernel
theorem dX8_init_1347 : decode cX8_init 1347 = .ok (.iconst 2, 1) := by decide +kernel
theorem dX8_init_1348 : decode cX8_init 1348 = .ok (.bipush 110, 2) := by decide +kernel
theorem dX8_init_1350 : decode cX8_init 1350 = .ok (.castore, 1) := by decide +kernel
theorem dX8_init_1351 : decode cX8_init 1351 = .ok (.dup, 1) := by decide +kernel
theorem dX8_init_1352 : decode cX8_init 1352 = .ok (.iconst 3, 1) := by decide +kernel
theorem dX8_init_1353 : decode cX8_init 1353 = .ok (.bipush 99, 2) := by decide +kernel
theorem dX8_init_1355 : decode cX8_init 1355 = .ok (.castore, 1) := by decide +kernel
theorem dX8_init_1356 : decode cX8_init 1356 = .ok (.dup, 1) := by decide +kernel
theorem dX8_init_1357 : decode cX8_init 1357 = .ok (.iconst 4, 1) := by decide +kernel
theorem dX8_init_1358 : decode cX8_init 1358 = .ok (.bipush 101, 2) := by decide +kernel
theorem dX8_init_1360 : decode cX8_init 1360 = .ok (.castore, 1) := by decide +kernel
theorem dX8_init_1361 : decode cX8_init 1361 = .ok (.putfield 207, 3) := by decide +kernel
theorem dX8_init_1364 : decode cX8_init 1364 = .ok (.aload_n 0, 1) := by decide +kernel
theorem dX8_init_1365 : decode cX8_init 1365 = .ok (.bipush 6, 2) := by decide +kernel
theorem dX8_init_1367 : decode cX8_init 1367 = .ok (.newarray .char, 2) := by decide +kernel
theorem dX8_init_1369 : decode cX8_init 1369 = .ok (.dup, 1) := by decide +kernel
theorem dX8_init_1370 : decode cX8_init 1370 = .ok (.iconst 0, 1) := by decide +kernel
theorem dX8_init_1371 : decode cX8_init 1371 = .ok (.bipush 112, 2) := by decide +kernel
theorem dX8_init_1373 : decode cX8_init 1373 = .ok (.castore, 1) := by decide +kernel
theorem dX8_init_1374 : decode cX8_init 1374 = .ok (.dup, 1) := by decide +kernel
theorem dX8_init_1375 : decode cX8_init 1375 = .ok (.iconst 1, 1) := by decide +kernel
theorem dX8_init_1376 : decode cX8_init 1376 = .ok (.bipush 108, 2) := by decide +kernel
theorem dX8_init_1378 : decode cX8_init 1378 = .ok (.castore, 1) := by decide +kernel
theorem dX8_init_1379 : decode cX8_init 1379 = .ok (.dup, 1) := by decide +kernel
theorem dX8_init_1380 : decode cX8_init 1380 = .ok (.iconst 2, 1) := by decide +kernel
theorem dX8_init_1381 : decode cX8_init 1381 = .ok (.bipush 97, 2) := by decide +kernel
theorem dX8_init_1383 : decode cX8_init 1383 = .ok (.castore, 1) := by decide +kernel
theorem dX8_init_1384 : decode cX8_init 1384 = .ok (.dup, 1) := by decide +kernel
theorem dX8_init_1385 : decode cX8_init 1385 = .ok (.iconst 3, 1) := by decide +kernel
theorem dX8_init_1386 : decode cX8_init 1386 = .ok (.bipush 121, 2) := by decide +kernel
theorem dX8_init_1388 : decode cX8_init 1388 = .ok (.castore, 1) := by decide +kernel
theorem dX8_init_1389 : decode cX8_init 1389 = .ok (.dup, 1) := by decide +kernel
theorem dX8_init_1390 : decode cX8_init 1390 = .ok (.iconst 4, 1) := by decide +kernel
theorem dX8_init_1391 : decode cX8_init 1391 = .ok (.bipush 101, 2) := by decide +kernel
theorem dX8_init_1393 : decode cX8_init 1393 = .ok (.castore, 1) := by decide +kernel
theorem dX8_init_1394 : decode cX8_init 1394 = .ok (.dup, 1) := by decide +kernel
theorem dX8_init_1395 : decode cX8_init 1395 = .ok (.iconst 5, 1) := by decide +kernel
theorem dX8_init_1396 : decode cX8_init 1396 = .ok (.bipush 100, 2) := by decide +kernel
theorem dX8_init_1398 : decode cX8_init 1398 = .ok (.castore, 1) := by decide +kernel
theorem dX8_init_1399 : decode cX8_init 1399 = .ok (.putfield 210, 3) := by decide +kernel
theorem dX8_init_1402 : decode cX8_init 1402 = .ok (.aload_n 0, 1) := by decide +kernel
theorem dX8_init_1403 : decode cX8_init 1403 = .ok (.iconst 3, 1) := by decide +kernel
theorem dX8_init_1404 : decode cX8_init 1404 = .ok (.newarray .char, 2) := by decide +kernel
theorem dX8_init_1406 : decode cX8_init 1406 = .ok (.dup, 1) := by decide +kernel
theorem dX8_init_1407 : decode cX8_init 1407 = .ok (.iconst 0, 1) := by decide +kernel
theorem dX8_init_1408 : decode cX8_init 1408 = .ok (.bipush 100, 2) := by decide +kernel
theorem dX8_init_1410 : decode cX8_init 1410 = .ok (.castore, 1) := by decide +kernel
theorem dX8_init_1411 : decode cX8_init 1411 = .ok (.dup, 1) := by decide +kernel
theorem dX8_init_1412 : decode cX8_init 1412 = .ok (.iconst 1, 1) := by decide +kernel
theorem dX8_init_1413 : decode cX8_init 1413 = .ok (.bipush 97, 2) := by decide +kernel
theorem dX8_init_1415 : decode cX8_init 1415 = .ok (.castore, 1) := by decide +kernel
theorem dX8_init_1416 : decode cX8_init 1416 = .ok (.dup, 1) := by decide +kernel
theorem dX8_init_1417 : decode cX8_init 1417 = .ok (.iconst 2, 1) := by decide +kernel
theorem dX8_init_1418 : decode cX8_init 1418 = .ok (.bipush 121, 2) := by decide +kernel
theorem dX8_init_1420 : decode cX8_init 1420 = .ok (.castore, 1) := by decide +kernel
theorem dX8_init_1421 : decode cX8_init 1421 = .ok (.putfield 213, 3) := by decide +kernel
theorem dX8_init_1424 : decode cX8_init 1424 = .ok (.aload_n 0, 1) := by decide +kernel
theorem dX8_init_1425 : decode cX8_init 1425 = .ok (.iconst 4, 1) := by decide +kernel
theorem dX8_init_1426 : decode cX8_init 1426 = .ok (.newarray .char, 2) := by decide +kernel
theorem dX8_init_1428 : decode cX8_init 1428 = .ok (.dup, 1) := by decide +kernel
theorem dX8_init_1429 : decode cX8_init 1429 = .ok (.iconst 0, 1) := by decide +kernel
theorem dX8_init_1430 : decode cX8_init 1430 = .ok (.bipush 108, 2) := by decide +kernel
theorem dX8_init_1432 : decode cX8_init 1432 = .ok (.castore, 1) := by decide +kernel
theorem dX8_init_1433 : decode cX8_init 1433 = .ok (.dup, 1) := by decide +kernel
theorem dX8_init_1434 : decode cX8_init 1434 = .ok (.iconst 1, 1) := by decide +kernel
theorem dX8_init_1435 : decode cX8_init 1435 = .ok (.bipush 111, 2) := by decide +kernel
theorem dX8_init_1437 : decode cX8_init 1437 = .ok (.castore, 1) := by decide +kernel
theorem dX8_init_1438 : decode cX8_init 1438 = .ok (.dup, 1) := by decide +kernel
theorem dX8_init_1439 : decode cX8_init 1439 = .ok (.iconst 2, 1) := by decide +kernel
theorem dX8_init_1440 : decode cX8_init 1440 = .ok (.bipush 110, 2) := by decide +kernel
theorem dX8_init_1442 : decode cX8_init 1442 = .ok (.castore, 1) := by decide +kernel
theorem dX8_init_1443 : decode cX8_init 1443 = .ok (.dup, 1) := by decide +kernel
theorem dX8_init_1444 : decode cX8_init 1444 = .ok (.iconst 3, 1) := by decide +kernel
theorem dX8_init_1445 : decode cX8_init 1445 = .ok (.bipush 103, 2) := by decide +kernel
theorem dX8_init_1447 : decode cX8_init 1447 = .ok (.castore, 1) := by decide +kernel
theorem dX8_init_1448 : decode cX8_init 1448 = .ok (.putfield 216, 3) := by decide +kernel
theorem dX8_init_1451 : decode cX8_init 1451 = .ok (.aload_n 0, 1) := by decide +kernel
theorem dX8_init_1452 : decode cX8_init 1452 = .ok (.iconst 5, 1) := by decide +kernel
theorem dX8_init_1453 : decode cX8_init 1453 = .ok (.newarray .char, 2) := by decide +kernel
theorem dX8_init_1455 : decode cX8_init 1455 = .ok (.dup, 1) := by decide +kernel
theorem dX8_init_1456 : decode cX8_init 1456 = .ok (.iconst 0, 1) := by decide +kernel
theorem dX8_init_1457 : decode cX8_init 1457 = .ok (.bipush 115, 2) := by decide +kernel
theorem dX8_init_1459 : decode cX8_init 1459 = .ok (.castore, 1) := by decide +kernel
theorem dX8_init_1460 : decode cX8_init 1460 = .ok (.dup, 1) := by decide +kernel
theorem dX8_init_1461 : decode cX8_init 1461 = .ok (.iconst 1, 1) := by decide +kernel
theorem dX8_init_1462 : decode cX8_init 1462 = .ok (.bipush 116, 2) := by decide +kernel
theorem dX8_init_1464 : decode cX8_init 1464 = .ok (.castore, 1) := by decide +kernel
theorem dX8_init_1465 : decode cX8_init 1465 = .ok (.dup, 1) := by decide +kernel
theorem dX8_init_1466 : decode cX8_init 1466 = .ok (.iconst 2, 1) := by decide +kernel
theorem dX8_init_1467 : decode cX8_init 1467 = .ok (.bipush 121, 2) := by decide +kernel
theorem dX8_init_1469 : decode cX8_init 1469 = .ok (.castore, 1) := by decide +kernel
theorem dX8_init_1470 : decode cX8_init 1470 = .ok (.dup, 1) := by decide +kernel
theorem dX8_init_1471 : decode cX8_init 1471 = .ok (.iconst 3, 1) := by decide +kernel
theorem dX8_init_1472 : decode cX8_init 1472 = .ok (.bipush 108, 2) := by decide +kernel
theorem dX8_init_1474 : decode cX8_init 1474 = .ok (.castore, 1) := by decide +kernel
theorem dX8_init_1475 : decode cX8_init 1475 = .ok (.dup, 1) := by decide +kernel
theorem dX8_init_1476 : decode cX8_init 1476 = .ok (.iconst 4, 1) := by decide +kernel
theorem dX8_init_1477 : decode cX8_init 1477 = .ok (.bipush 101, 2) := by decide +kernel
theorem dX8_init_1479 : decode cX8_init 1479 = .ok (.castore, 1) := by decide +kernel
theorem dX8_init_1480 : decode cX8_init 1480 = .ok (.putfield 219, 3) := by decide +kernel
theorem dX8_init_1483 : decode cX8_init 1483 = .ok (.aload_n 0, 1) := by decide +kernel
theorem dX8_init_1484 : decode cX8_init 1484 = .ok (.bipush 6, 2) := by decide +kernel
theorem dX8_init_1486 : decode cX8_init 1486 = .ok (.newarray .char, 2) := by decide +kernel
theorem dX8_init_1488 : decode cX8_init 1488 = .ok (.dup, 1) := by decide +kernel
theorem dX8_init_1489 : decode cX8_init 1489 = .ok (.iconst 0, 1) := by decide +kernel
theorem dX8_init_1490 : decode cX8_init 1490 = .ok (.bipush 110, 2) := by decide +kernel
theorem dX8_init_1492 : decode cX8_init 1492 = .ok (.castore, 1) := by decide +kernel
theorem dX8_init_1493 : decode cX8_init 1493 = .ok (.dup, 1) := by decide +kernel
theorem dX8_init_1494 : decode cX8_init 1494 = .ok (.iconst 1, 1) := by decide +kernel
theorem dX8_init_1495 : decode cX8_init 1495 = .ok (.bipush 117, 2) := by decide +kernel
theorem dX8_init_1497 : decode cX8_init 1497 = .ok (.castore, 1) := by decide +kernel
theorem dX8_init_1498 : decode cX8_init 1498 = .ok (.dup, 1) := by decide +kernel
theorem dX8_init_1499 : decode cX8_init 1499 = .ok (.iconst 2, 1) := by decide +kernel
theorem dX8_init_1500 : decode cX8_init 1500 = .ok (.bipush 109, 2) := by decide +kernel
theorem dX8_init_1502 : decode cX8_init 1502 = .ok (.castore, 1) := by decide +kernel
theorem dX8_init_1503 : decode cX8_init 1503 = .ok (.dup, 1) := by decide +kernel
theorem dX8_init_1504 : decode cX8_init 1504 = .ok (.iconst 3, 1) := by decide +kernel
theorem dX8_init_1505 : decode cX8_init 1505 = .ok (.bipush 98, 2) := by decide +kernel
theorem dX8_init_1507 : decode cX8_init 1507 = .ok (.castore, 1) := by decide +kernel
theorem dX8_init_1508 : decode cX8_init 1508 = .ok (.dup, 1) := by decide +kernel
theorem dX8_init_1509 : decode cX8_init 1509 = .ok (.iconst 4, 1) := by decide +kernel
theorem dX8_init_1510 : decode cX8_init 1510 = .ok (.bipush 101, 2) := by decide +kernel
theorem dX8_init_1512 : decode cX8_init 1512 = .ok (.castore, 1) := by decide +kernel
theorem dX8_init_1513 : decode cX8_init 1513 = .ok (.dup, 1) := by decide +kernel
theorem dX8_init_1514 : decode cX8_init 1514 = .ok (.iconst 5, 1) := by decide +kernel
theorem dX8_init_1515 : decode cX8_init 1515 = .ok (.bipush 114, 2) := by decide +kernel
theorem dX8_init_1517 : decode cX8_init 1517 = .ok (.castore, 1) := by decide +kernel
theorem dX8_init_1518 : decode cX8_init 1518 = .ok (.putfield 222, 3) := by decide +kernel
theorem dX8_init_1521 : decode cX8_init 1521 = .ok (.aload_n 0, 1) := by decide +kernel
theorem dX8_init_1522 : decode cX8_init 1522 = .ok (.iconst 5, 1) := by decide +kernel
theorem dX8_init_1523 : decode cX8_init 1523 = .ok (.newarray .char, 2) := by decide +kernel
theorem dX8_init_1525 : decode cX8_init 1525 = .ok (.dup, 1) := by decide +kernel
theorem dX8_init_1526 : decode cX8_init 1526 = .ok (.iconst 0, 1) := by decide +kernel
theorem dX8_init_1527 : decode cX8_init 1527 = .ok (.bipush 97, 2) := by decide +kernel
theorem dX8_init_1529 : decode cX8_init 1529 = .ok (.castore, 1) := by decide +kernel
theorem dX8_init_1530 : decode cX8_init 1530 = .ok (.dup, 1) := by decide +kernel
theorem dX8_init_1531 : decode cX8_init 1531 = .ok (.iconst 1, 1) := by decide +kernel
theorem dX8_init_1532 : decode cX8_init 1532 = .ok (.bipush 108, 2) := by decide +kernel
theorem dX8_init_1534 : decode cX8_init 1534 = .ok (.castore, 1) := by decide +kernel
theorem dX8_init_1535 : decode cX8_init 1535 = .ok (.dup, 1) := by decide +kernel
theorem dX8_init_1536 : decode cX8_init 1536 = .ok (.iconst 2, 1) := by decide +kernel
theorem dX8_init_1537 : decode cX8_init 1537 = .ok (.bipush 105, 2) := by decide +kernel
theorem dX8_init_1539 : decode cX8_init 1539 = .ok (.castore, 1) := by decide +kernel
theorem dX8_init_1540 : decode cX8_init 1540 = .ok (.dup, 1) := by decide +kernel
theorem dX8_init_1541 : decode cX8_init 1541 = .ok (.iconst 3, 1) := by decide +kernel
theorem dX8_init_1542 : decode cX8_init 1542 = .ok (.bipush 118, 2) := by decide +kernel
theorem dX8_init_1544 : decode cX8_init 1544 = .ok (.castore, 1) := by decide +kernel
theorem dX8_init_1545 : decode cX8_init 1545 = .ok (.dup, 1) := by decide +kernel
theorem dX8_init_1546 : decode cX8_init 1546 = .ok (.iconst 4, 1) := by decide +kernel
theorem dX8_init_1547 : decode cX8_init 1547 = .ok (.bipush 101, 2) := by decide +kernel
theorem dX8_init_1549 : decode cX8_init 1549 = .ok (.castore, 1) := by decide +kernel
theorem dX8_init_1550 : decode cX8_init 1550 = .ok (.putfield 225, 3) := by decide +kernel
theorem dX8_init_1553 : decode cX8_init 1553 = .ok (.aload_n 0, 1) := by decide +kernel
theorem dX8_init_1554 : decode cX8_init 1554 = .ok (.iconst 2, 1) := by decide +kernel
theorem dX8_init_1555 : decode cX8_init 1555 = .ok (.newarray .char, 2) := by decide +kernel
theorem dX8_init_1557 : decode cX8_init 1557 = .ok (.dup, 1) := by decide +kernel
theorem dX8_init_1558 : decode cX8_init 1558 = .ok (.iconst 0, 1) := by decide +kernel
theorem dX8_init_1559 : decode cX8_init 1559 = .ok (.bipush 111, 2) := by decide +kernel
theorem dX8_init_1561 : decode cX8_init 1561 = .ok (.castore, 1) := by decide +kernel
theorem dX8_init_1562 : decode cX8_init 1562 = .ok (.dup, 1) := by decide +kernel
theorem dX8_init_1563 : decode cX8_init 1563 = .ok (.iconst 1, 1) := by decide +kernel
theorem dX8_init_1564 : decode cX8_init 1564 = .ok (.bipush 110, 2) := by decide +kernel
theorem dX8_init_1566 : decode cX8_init 1566 = .ok (.castore, 1) := by decide +kernel
theorem dX8_init_1567 : decode cX8_init 1567 = .ok (.putfield 228, 3) := by decide +kernel
theorem dX8_init_1570 : decode cX8_init 1570 = .ok (.aload_n 0, 1) := by decide +kernel
theorem dX8_init_1571 : decode cX8_init 1571 = .ok (.iconst 5, 1) := by decide +kernel
theorem dX8_init_1572 : decode cX8_init 1572 = .ok (.newarray .char, 2) := by decide +kernel
theorem dX8_init_1574 : decode cX8_init 1574 = .ok (.dup, 1) := by decide +kernel
theorem dX8_init_1575 : decode cX8_init 1575 = .ok (.iconst 0, 1) := by decide +kernel
theorem dX8_init_1576 : decode cX8_init 1576 = .ok (.bipush 119, 2) := by decide +kernel
theorem dX8_init_1578 : decode cX8_init 1578 = .ok (.castore, 1) := by decide +kernel
theorem dX8_init_1579 : decode cX8_init 1579 = .ok (.dup, 1) := by decide +kernel
theorem dX8_init_1580 : decode cX8_init 1580 = .ok (.iconst 1, 1) := by decide +kernel
theorem dX8_init_1581 : decode cX8_init 1581 = .ok (.bipush 97, 2) := by decide +kernel
theorem dX8_init_1583 : decode cX8_init 1583 = .ok (.castore, 1) := by decide +kernel
theorem dX8_init_1584 : decode cX8_init 1584 = .ok (.dup, 1) := by decide +kernel
theorem dX8_init_1585 : decode cX8_init 1585 = .ok (.iconst 2, 1) := by decide +kernel
theorem dX8_init_1586 : decode cX8_init 1586 = .ok (.bipush 110, 2) := by decide +kernel
theorem dX8_init_1588 : decode cX8_init 1588 = .ok (.castore, 1) := by decide +kernel
theorem dX8_init_1589 : decode cX8_init 1589 = .ok (.dup, 1) := by decide +kernel
theorem dX8_init_1590 : decode cX8_init 1590 = .ok (.iconst 3, 1) := by decide +kernel
theorem dX8_init_1591 : decode cX8_init 1591 = .ok (.bipush 116, 2) := by decide +kernel
theorem dX8_init_1593 : decode cX8_init 1593 = .ok (.castore, 1) := by decide +kernel
theorem dX8_init_1594 : decode cX8_init 1594 = .ok (.dup, 1) := by decide +kernel
theorem dX8_init_1595 : decode cX8_init 1595 = .ok (.iconst 4, 1) := by decide +kernel
theorem dX8_init_1596 : decode cX8_init 1596 = .ok (.bipush 115, 2) := by decide +kernel
theorem dX8_init_1598 : decode cX8_init 1598 = .ok (.castore, 1) := by decide +kernel
theorem dX8_init_1599 : decode cX8_init 1599 = .ok (.putfield 231, 3) := by decide +kernel
theorem dX8_init_1602 : decode cX8_init 1602 = .ok (.aload_n 0, 1) := by decide +kernel
theorem dX8_init_1603 : decode cX8_init 1603 = .ok (.sipush 1700, 3) := by decide +kernel
theorem dX8_init_1606 : decode cX8_init 1606 = .ok (.newarray .int, 2) := by decide +kernel
theorem dX8_init_1608 : decode cX8_init 1608 = .ok (.putfield 234, 3) := by decide +kernel
theorem dX8_init_1611 : decode cX8_init 1611 = .ok (.aload_n 0, 1) := by decide +kernel
theorem dX8_init_1612 : decode cX8_init 1612 = .ok (.sipush 1700, 3) := by decide +kernel
theorem dX8_init_1615 : decode cX8_init 1615 = .ok (.newarray .int, 2) := by decide +kernel
theorem dX8_init_1617 : decode cX8_init 1617 = .ok (.putfield 237, 3) := by decide +kernel
theorem dX8_init_1620 : decode cX8_init 1620 = .ok (.aload_n 0, 1) := by decide +kernel
theorem dX8_init_1621 : decode cX8_init 1621 = .ok (.sipush 1700, 3) := by decide +kernel
theorem dX8_init_1624 : decode cX8_init 1624 = .ok (.newarray .long, 2) := by decide +kernel
theorem dX8_init_1626 : decode cX8_init 1626 = .ok (.putfield 240, 3) := by decide +kernel
theorem dX8_init_1629 : decode cX8_init 1629 = .ok (.aload_n 0, 1) := by decide +kernel
theorem dX8_init_1630 : decode cX8_init 1630 = .ok (.bipush 69, 2) := by decide +kernel
theorem dX8_init_1632 : decode cX8_init 1632 = .ok (.newarray .int, 2) := by decide +kernel
theorem dX8_init_1634 : decode cX8_init 1634 = .ok (.putfield 243, 3) := by decide +kernel
theorem dX8_init_1637 : decode cX8_init 1637 = .ok (.return_, 1) := by decide +kernel
theorem dX8_isIn_0 : decode cX8_isIn 0 = .ok (.lload_n 0, 1) := by decide +kernel
theorem dX8_isIn_1 : decode cX8_isIn 1 = .ok (.lload_n 2, 1) := by decide +kernel
theorem dX8_isIn_2 : decode cX8_isIn 2 = .ok (.lcmp, 1) := by decide +kernel
theorem dX8_isIn_3 : decode cX8_isIn 3 = .ok (.ifCond .lt 14, 3) := by decide +kernel
theorem dX8_isIn_6 : decode cX8_isIn 6 = .ok (.lload_n 0, 1) := by decide +kernel
theorem dX8_isIn_7 : decode cX8_isIn 7 = .ok (.lload 4, 2) := by decide +kernel
theorem dX8_isIn_9 : decode cX8_isIn 9 = .ok (.lcmp, 1) := by decide +kernel
theorem dX8_isIn_10 : decode cX8_isIn 10 = .ok (.ifCond .gt 7, 3) := by decide +kernel
theorem dX8_isIn_13 : decode cX8_isIn 13 = .ok (.iconst 1, 1) := by decide +kernel
theorem dX8_isIn_14 : decode cX8_isIn 14 = .ok (.goto 4, 3) := by decide +kernel
theorem dX8_isIn_17 : decode cX8_isIn 17 = .ok (.iconst 0, 1) := by decide +kernel
theorem dX8_isIn_18 : decode cX8_isIn 18 = .ok (.ireturn, 1) := by decide +kernel
theorem dX8_feed_0 : decode cX8_feed 0 = .ok (.aload_n 0, 1) := by decide +kernel
theorem dX8_feed_1 : decode cX8_feed 1 = .ok (.getfield 246, 3) := by decide +kernel
theorem dX8_feed_4 : decode cX8_feed 4 = .ok (.bipush 20, 2) := by decide +kernel
theorem dX8_feed_6 : decode cX8_feed 6 = .ok (.iadd, 1) := by decide +kernel
theorem dX8_feed_7 : decode cX8_feed 7 = .ok (.sipush 1600, 3) := by decide +kernel
theorem dX8_feed_10 : decode cX8_feed 10 = .ok (.if_icmp .le 15, 3) := by decide +kernel
theorem dX8_feed_13 : decode cX8_feed 13 = .ok (.aload_n 0, 1) := by decide +kernel
theorem dX8_feed_14 : decode cX8_feed 14 = .ok (.getfield 17, 3) := by decide +kernel
theorem dX8_feed_17 : decode cX8_feed 17 = .ok (.iconst 0, 1) := by decide +kernel
theorem dX8_feed_18 : decode cX8_feed 18 = .ok (.dup2, 1) := by decide +kernel
theorem dX8_feed_19 : decode cX8_feed 19 = .ok (.iaload, 1) := by decide +kernel
theorem dX8_feed_20 : decode cX8_feed 20 = .ok (.iconst 1, 1) := by decide +kernel
theorem dX8_feed_21 : decode cX8_feed 21 = .ok (.iadd, 1) := by decide +kernel
theorem dX8_feed_22 : decode cX8_feed 22 = .ok (.iastore, 1) := by decide +kernel
theorem dX8_feed_23 : decode cX8_feed 23 = .ok (.iconst (-1), 1) := by decide +kernel
theorem dX8_feed_24 : decode cX8_feed 24 = .ok (.ireturn, 1) := by decide +kernel
theorem dX8_feed_25 : decode cX8_feed 25 = .ok (.iconst 0, 1) := by decide +kernel
theorem dX8_feed_26 : decode cX8_feed 26 = .ok (.istore 6, 2) := by decide +kernel
theorem dX8_feed_28 : decode cX8_feed 28 = .ok (.iload 6, 2) := by decide +kernel
theorem dX8_feed_30 : decode cX8_feed 30 = .ok (.bipush 20, 2) := by decide +kernel
theorem dX8_feed_32 : decode cX8_feed 32 = .ok (.if_icmp .ge 92, 3) := by decide +kernel
theorem dX8_feed_35 : decode cX8_feed 35 = .ok (.iload 6, 2) := by decide +kernel
theorem dX8_feed_37 : decode cX8_feed 37 = .ok (.iconst 4, 1) := by decide +kernel
theorem dX8_feed_38 : decode cX8_feed 38 = .ok (.if_icmp .ge 7, 3) := by decide +kernel
theorem dX8_feed_41 : decode cX8_feed 41 = .ok (.iload_n 1, 1) := by decide +kernel
theorem dX8_feed_42 : decode cX8_feed 42 = .ok (.goto 39, 3) := by decide +kernel
theorem dX8_feed_45 : decode cX8_feed 45 = .ok (.iload 6, 2) := by decide +kernel
theorem dX8_feed_47 : decode cX8_feed 47 = .ok (.bipush 8, 2) := by decide +kernel
theorem dX8_feed_49 : decode cX8_feed 49 = .ok (.if_icmp .ge 7, 3) := by decide +kernel
theorem dX8_feed_52 : decode cX8_feed 52 = .ok (.iload_n 2, 1) := by decide +kernel
theorem dX8_feed_53 : decode cX8_feed 53 = .ok (.goto 28, 3) := by decide +kernel
theorem dX8_feed_56 : decode cX8_feed 56 = .ok (.iload 6, 2) := by decide +kernel
theorem dX8_feed_58 : decode cX8_feed 58 = .ok (.bipush 12, 2) := by decide +kernel
theorem dX8_feed_60 : decode cX8_feed 60 = .ok (.if_icmp .ge 7, 3) := by decide +kernel
theorem dX8_feed_63 : decode cX8_feed 63 = .ok (.iload_n 3, 1) := by decide +kernel
theorem dX8_feed_64 : decode cX8_feed 64 = .ok (.goto 17, 3) := by decide +kernel
theorem dX8_feed_67 : decode cX8_feed 67 = .ok (.iload 6, 2) := by decide +kernel
theorem dX8_feed_69 : decode cX8_feed 69 = .ok (.bipush 16, 2) := by decide +kernel
theorem dX8_feed_71 : decode cX8_feed 71 = .ok (.if_icmp .ge 8, 3) := by decide +kernel
theorem dX8_feed_74 : decode cX8_feed 74 = .ok (.iload 4, 2) := by decide +kernel
theorem dX8_feed_76 : decode cX8_feed 76 = .ok (.goto 5, 3) := by decide +kernel
theorem dX8_feed_79 : decode cX8_feed 79 = .ok (.iload 5, 2) := by decide +kernel
theorem dX8_feed_81 : decode cX8_feed 81 = .ok (.istore 7, 2) := by decide +kernel
theorem dX8_feed_83 : decode cX8_feed 83 = .ok (.aload_n 0, 1) := by decide +kernel
theorem dX8_feed_84 : decode cX8_feed 84 = .ok (.getfield 7, 3) := by decide +kernel
theorem dX8_feed_87 : decode cX8_feed 87 = .ok (.aload_n 0, 1) := by decide +kernel
theorem dX8_feed_88 : decode cX8_feed 88 = .ok (.getfield 246, 3) := by decide +kernel
theorem dX8_feed_91 : decode cX8_feed 91 = .ok (.iload 7, 2) := by decide +kernel
theorem dX8_feed_93 : decode cX8_feed 93 = .ok (.bipush 8, 2) := by decide +kernel
theorem dX8_feed_95 : decode cX8_feed 95 = .ok (.iconst 3, 1) := by decide +kernel
theorem dX8_feed_96 : decode cX8_feed 96 = .ok (.iload 6, 2) := by decide +kernel
theorem dX8_feed_98 : decode cX8_feed 98 = .ok (.iconst 4, 1) := by decide +kernel
theorem dX8_feed_99 : decode cX8_feed 99 = .ok (.irem, 1) := by decide +kernel
theorem dX8_feed_100 : decode cX8_feed 100 = .ok (.isub, 1) := by decide +kernel
theorem dX8_feed_101 : decode cX8_feed 101 = .ok (.imul, 1) := by decide +kernel
theorem dX8_feed_102 : decode cX8_feed 102 = .ok (.ishr, 1) := by decide +kernel
theorem dX8_feed_103 : decode cX8_feed 103 = .ok (.sipush 255, 3) := by decide +kernel
theorem dX8_feed_106 : decode cX8_feed 106 = .ok (.iand, 1) := by decide +kernel
theorem dX8_feed_107 : decode cX8_feed 107 = .ok (.iastore, 1) := by decide +kernel
theorem dX8_feed_108 : decode cX8_feed 108 = .ok (.aload_n 0, 1) := by decide +kernel
theorem dX8_feed_109 : decode cX8_feed 109 = .ok (.dup, 1) := by decide +kernel
theorem dX8_feed_110 : decode cX8_feed 110 = .ok (.getfield 246, 3) := by decide +kernel
theorem dX8_feed_113 : decode cX8_feed 113 = .ok (.iconst 1, 1) := by decide +kernel
theorem dX8_feed_114 : decode cX8_feed 114 = .ok (.iadd, 1) := by decide +kernel
theorem dX8_feed_115 : decode cX8_feed 115 = .ok (.putfield 246, 3) := by decide +kernel
theorem dX8_feed_118 : decode cX8_feed 118 = .ok (.iinc 6 1, 3) := by decide +kernel
theorem dX8_feed_121 : decode cX8_feed 121 = .ok (.goto (-93), 3) := by decide +kernel
theorem dX8_feed_124 : decode cX8_feed 124 = .ok (.aload_n 0, 1) := by decide +kernel
theorem dX8_feed_125 : decode cX8_feed 125 = .ok (.getfield 246, 3) := by decide +kernel
theorem dX8_feed_128 : decode cX8_feed 128 = .ok (.ireturn, 1) := by decide +kernel
theorem dX8_end_0 : decode cX8_end 0 = .ok (.iload_n 1, 1) := by decide +kernel
theorem dX8_end_1 : decode cX8_end 1 = .ok (.ifCond .lt 11, 3) := by decide +kernel
theorem dX8_end_4 : decode cX8_end 4 = .ok (.iload_n 1, 1) := by decide +kernel
theorem dX8_end_5 : decode cX8_end 5 = .ok (.aload_n 0, 1) := by decide +kernel
theorem dX8_end_6 : decode cX8_end 6 = .ok (.getfield 246, 3) := by decide +kernel
theorem dX8_end_9 : decode cX8_end 9 = .ok (.if_icmp .le 15, 3) := by decide +kernel
theorem dX8_end_12 : decode cX8_end 12 = .ok (.aload_n 0, 1) := by decide +kernel
theorem dX8_end_13 : decode cX8_end 13 = .ok (.getfield 17, 3) := by decide +kernel
theorem dX8_end_16 : decode cX8_end 16 = .ok (.iconst 0, 1) := by decide +kernel
theorem dX8_end_17 : decode cX8_end 17 = .ok (.dup2, 1) := by decide +kernel
theorem dX8_end_18 : decode cX8_end 18 = .ok (.iaload, 1) := by decide +kernel
theorem dX8_end_19 : decode cX8_end 19 = .ok (.iconst 1, 1) := by decide +kernel
theorem dX8_end_20 : decode cX8_end 20 = .ok (.iadd, 1) := by decide +kernel
theorem dX8_end_21 : decode cX8_end 21 = .ok (.iastore, 1) := by decide +kernel
theorem dX8_end_22 : decode cX8_end 22 = .ok (.iconst 0, 1) := by decide +kernel
theorem dX8_end_23 : decode cX8_end 23 = .ok (.ireturn, 1) := by decide +kernel
theorem dX8_end_24 : decode cX8_end 24 = .ok (.aload_n 0, 1) := by decide +kernel
theorem dX8_end_25 : decode cX8_end 25 = .ok (.iload_n 1, 1) := by decide +kernel
theorem dX8_end_26 : decode cX8_end 26 = .ok (.putfield 246, 3) := by decide +kernel
theorem dX8_end_29 : decode cX8_end 29 = .ok (.iconst 1, 1) := by decide +kernel
theorem dX8_end_30 : decode cX8_end 30 = .ok (.ireturn, 1) := by decide +kernel
theorem dX8_fail_0 : decode cX8_fail 0 = .ok (.aload_n 0, 1) := by decide +kernel
theorem dX8_fail_1 : decode cX8_fail 1 = .ok (.getfield 249, 3) := by decide +kernel
theorem dX8_fail_4 : decode cX8_fail 4 = .ok (.ifCond .eq 4, 3) := by decide +kernel
theorem dX8_fail_7 : decode cX8_fail 7 = .ok (.return_, 1) := by decide +kernel
theorem dX8_fail_8 : decode cX8_fail 8 = .ok (.aload_n 0, 1) := by decide +kernel
theorem dX8_fail_9 : decode cX8_fail 9 = .ok (.iload_n 1, 1) := by decide +kernel
theorem dX8_fail_10 : decode cX8_fail 10 = .ok (.putfield 249, 3) := by decide +kernel
theorem dX8_fail_13 : decode cX8_fail 13 = .ok (.aload_n 0, 1) := by decide +kernel
theorem dX8_fail_14 : decode cX8_fail 14 = .ok (.iload_n 2, 1) := by decide +kernel
theorem dX8_fail_15 : decode cX8_fail 15 = .ok (.putfield 252, 3) := by decide +kernel
theorem dX8_fail_18 : decode cX8_fail 18 = .ok (.return_, 1) := by decide +kernel
theorem dX8_isLetter_0 : decode cX8_isLetter 0 = .ok (.iload_n 0, 1) := by decide +kernel
theorem dX8_isLetter_1 : decode cX8_isLetter 1 = .ok (.bipush 97, 2) := by decide +kernel
theorem dX8_isLetter_3 : decode cX8_isLetter 3 = .ok (.if_icmp .lt 13, 3) := by decide +kernel
theorem dX8_isLetter_6 : decode cX8_isLetter 6 = .ok (.iload_n 0, 1) := by decide +kernel
theorem dX8_isLetter_7 : decode cX8_isLetter 7 = .ok (.bipush 122, 2) := by decide +kernel
theorem dX8_isLetter_9 : decode cX8_isLetter 9 = .ok (.if_icmp .gt 7, 3) := by decide +kernel
theorem dX8_isLetter_12 : decode cX8_isLetter 12 = .ok (.iconst 1, 1) := by decide +kernel
theorem dX8_isLetter_13 : decode cX8_isLetter 13 = .ok (.goto 4, 3) := by decide +kernel
theorem dX8_isLetter_16 : decode cX8_isLetter 16 = .ok (.iconst 0, 1) := by decide +kernel
theorem dX8_isLetter_17 : decode cX8_isLetter 17 = .ok (.ireturn, 1) := by decide +kernel
theorem dX8_isDigit_0 : decode cX8_isDigit 0 = .ok (.iload_n 0, 1) := by decide +kernel
theorem dX8_isDigit_1 : decode cX8_isDigit 1 = .ok (.bipush 48, 2) := by decide +kernel
theorem dX8_isDigit_3 : decode cX8_isDigit 3 = .ok (.if_icmp .lt 13, 3) := by decide +kernel
theorem dX8_isDigit_6 : decode cX8_isDigit 6 = .ok (.iload_n 0, 1) := by decide +kernel
theorem dX8_isDigit_7 : decode cX8_isDigit 7 = .ok (.bipush 57, 2) := by decide +kernel
theorem dX8_isDigit_9 : decode cX8_isDigit 9 = .ok (.if_icmp .gt 7, 3) := by decide +kernel
theorem dX8_isDigit_12 : decode cX8_isDigit 12 = .ok (.iconst 1, 1) := by decide +kernel
theorem dX8_isDigit_13 : decode cX8_isDigit 13 = .ok (.goto 4, 3) := by decide +kernel
theorem dX8_isDigit_16 : decode cX8_isDigit 16 = .ok (.iconst 0, 1) := by decide +kernel
theorem dX8_isDigit_17 : decode cX8_isDigit 17 = .ok (.ireturn, 1) := by decide +kernel
theorem dX8_look_0 : decode cX8_look 0 = .ok (.aload_n 0, 1) := by decide +kernel
theorem dX8_look_1 : decode cX8_look 1 = .ok (.getfield 255, 3) := by decide +kernel
theorem dX8_look_4 : decode cX8_look 4 = .ok (.aload_n 0, 1) := by decide +kernel
theorem dX8_look_5 : decode cX8_look 5 = .ok (.getfield 258, 3) := by decide +kernel
theorem dX8_look_8 : decode cX8_look 8 = .ok (.if_icmp .ge 44, 3) := by decide +kernel
theorem dX8_look_11 : decode cX8_look 11 = .ok (.aload_n 0, 1) := by decide +kernel
theorem dX8_look_12 : decode cX8_look 12 = .ok (.getfield 7, 3) := by decide +kernel
theorem dX8_look_15 : decode cX8_look 15 = .ok (.aload_n 0, 1) := by decide +kernel
theorem dX8_look_16 : decode cX8_look 16 = .ok (.getfield 255, 3) := by decide +kernel
theorem dX8_look_19 : decode cX8_look 19 = .ok (.iaload, 1) := by decide +kernel
theorem dX8_look_20 : decode cX8_look 20 = .ok (.bipush 10, 2) := by decide +kernel
theorem dX8_look_22 : decode cX8_look 22 = .ok (.if_icmp .eq 17, 3) := by decide +kernel
theorem dX8_look_25 : decode cX8_look 25 = .ok (.aload_n 0, 1) := by decide +kernel
theorem dX8_look_26 : decode cX8_look 26 = .ok (.getfield 7, 3) := by decide +kernel
theorem dX8_look_29 : decode cX8_look 29 = .ok (.aload_n 0, 1) := by decide +kernel
theorem dX8_look_30 : decode cX8_look 30 = .ok (.getfield 255, 3) := by decide +kernel
theorem dX8_look_33 : decode cX8_look 33 = .ok (.iaload, 1) := by decide +kernel
theorem dX8_look_34 : decode cX8_look 34 = .ok (.bipush 32, 2) := by decide +kernel
theorem dX8_look_36 : decode cX8_look 36 = .ok (.if_icmp .ne 16, 3) := by decide +kernel
theorem dX8_look_39 : decode cX8_look 39 = .ok (.aload_n 0, 1) := by decide +kernel
theorem dX8_look_40 : decode cX8_look 40 = .ok (.dup, 1) := by decide +kernel
theorem dX8_look_41 : decode cX8_look 41 = .ok (.getfield 255, 3) := by decide +kernel
theorem dX8_look_44 : decode cX8_look 44 = .ok (.iconst 1, 1) := by decide +kernel
theorem dX8_look_45 : decode cX8_look 45 = .ok (.iadd, 1) := by decide +kernel
theorem dX8_look_46 : decode cX8_look 46 = .ok (.putfield 255, 3) := by decide +kernel
theorem dX8_look_49 : decode cX8_look 49 = .ok (.goto (-49), 3) := by decide +kernel
theorem dX8_look_52 : decode cX8_look 52 = .ok (.aload_n 0, 1) := by decide +kernel
theorem dX8_look_53 : decode cX8_look 53 = .ok (.getfield 255, 3) := by decide +kernel
theorem dX8_look_56 : decode cX8_look 56 = .ok (.aload_n 0, 1) := by decide +kernel
theorem dX8_look_57 : decode cX8_look 57 = .ok (.getfield 258, 3) := by decide +kernel
theorem dX8_look_60 : decode cX8_look 60 = .ok (.if_icmp .ge 15, 3) := by decide +kernel
theorem dX8_look_63 : decode cX8_look 63 = .ok (.aload_n 0, 1) := by decide +kernel
theorem dX8_look_64 : decode cX8_look 64 = .ok (.getfield 7, 3) := by decide +kernel
theorem dX8_look_67 : decode cX8_look 67 = .ok (.aload_n 0, 1) := by decide +kernel
theorem dX8_look_68 : decode cX8_look 68 = .ok (.getfield 255, 3) := by decide +kernel
theorem dX8_look_71 : decode cX8_look 71 = .ok (.iaload, 1) := by decide +kernel
theorem dX8_look_72 : decode cX8_look 72 = .ok (.goto 4, 3) := by decide +kernel
theorem dX8_look_75 : decode cX8_look 75 = .ok (.iconst (-1), 1) := by decide +kernel
theorem dX8_look_76 : decode cX8_look 76 = .ok (.ireturn, 1) := by decide +kernel
theorem dX8_isHere_0 : decode cX8_isHere 0 = .ok (.aload_n 0, 1) := by decide +kernel
theorem dX8_isHere_1 : decode cX8_isHere 1 = .ok (.getfield 249, 3) := by decide +kernel
theorem dX8_isHere_4 : decode cX8_isHere 4 = .ok (.ifCond .ne 24, 3) := by decide +kernel
theorem dX8_isHere_7 : decode cX8_isHere 7 = .ok (.aload_n 0, 1) := by decide +kernel
theorem dX8_isHere_8 : decode cX8_isHere 8 = .ok (.invokevirtual 261, 3) := by decide +kernel
theorem dX8_isHere_11 : decode cX8_isHere 11 = .ok (.invokestatic 265, 3) := by decide +kernel
theorem dX8_isHere_14 : decode cX8_isHere 14 = .ok (.ifCond .eq 14, 3) := by decide +kernel
theorem dX8_isHere_17 : decode cX8_isHere 17 = .ok (.aload_n 0, 1) := by decide +kernel
theorem dX8_isHere_18 : decode cX8_isHere 18 = .ok (.getfield 255, 3) := by decide +kernel
theorem dX8_isHere_21 : decode cX8_isHere 21 = .ok (.aload_n 0, 1) := by decide +kernel
theorem dX8_isHere_22 : decode cX8_isHere 22 = .ok (.getfield 269, 3) := by decide +kernel
theorem dX8_isHere_25 : decode cX8_isHere 25 = .ok (.if_icmp .ne 5, 3) := by decide +kernel
theorem dX8_isHere_28 : decode cX8_isHere 28 = .ok (.iconst 0, 1) := by decide +kernel
theorem dX8_isHere_29 : decode cX8_isHere 29 = .ok (.ireturn, 1) := by decide +kernel
theorem dX8_isHere_30 : decode cX8_isHere 30 = .ok (.aload_n 0, 1) := by decide +kernel
theorem dX8_isHere_31 : decode cX8_isHere 31 = .ok (.getfield 255, 3) := by decide +kernel
theorem dX8_isHere_34 : decode cX8_isHere 34 = .ok (.istore_n 2, 1) := by decide +kernel
theorem dX8_isHere_35 : decode cX8_isHere 35 = .ok (.iload_n 2, 1) := by decide +kernel
theorem dX8_isHere_36 : decode cX8_isHere 36 = .ok (.aload_n 0, 1) := by decide +kernel
theorem dX8_isHere_37 : decode cX8_isHere 37 = .ok (.getfield 258, 3) := by decide +kernel
theorem dX8_isHere_40 : decode cX8_isHere 40 = .ok (.if_icmp .ge 21, 3) := by decide +kernel
theorem dX8_isHere_43 : decode cX8_isHere 43 = .ok (.aload_n 0, 1) := by decide +kernel
theorem dX8_isHere_44 : decode cX8_isHere 44 = .ok (.getfield 7, 3) := by decide +kernel
theorem dX8_isHere_47 : decode cX8_isHere 47 = .ok (.iload_n 2, 1) := by decide +kernel
theorem dX8_isHere_48 : decode cX8_isHere 48 = .ok (.iaload, 1) := by decide +kernel
theorem dX8_isHere_49 : decode cX8_isHere 49 = .ok (.invokestatic 265, 3) := by decide +kernel
theorem dX8_isHere_52 : decode cX8_isHere 52 = .ok (.ifCond .eq 9, 3) := by decide +kernel
theorem dX8_isHere_55 : decode cX8_isHere 55 = .ok (.iinc 2 1, 3) := by decide +kernel
theorem dX8_isHere_58 : decode cX8_isHere 58 = .ok (.goto (-23), 3) := by decide +kernel
theorem dX8_isHere_61 : decode cX8_isHere 61 = .ok (.iload_n 2, 1) := by decide +kernel
theorem dX8_isHere_62 : decode cX8_isHere 62 = .ok (.aload_n 0, 1) := by decide +kernel
theorem dX8_isHere_63 : decode cX8_isHere 63 = .ok (.getfield 255, 3) := by decide +kernel
theorem dX8_isHere_66 : decode cX8_isHere 66 = .ok (.isub, 1) := by decide +kernel
theorem dX8_isHere_67 : decode cX8_isHere 67 = .ok (.aload_n 1, 1) := by decide +kernel
theorem dX8_isHere_68 : decode cX8_isHere 68 = .ok (.arraylength, 1) := by decide +kernel
theorem dX8_isHere_69 : decode cX8_isHere 69 = .ok (.if_icmp .eq 5, 3) := by decide +kernel
theorem dX8_isHere_72 : decode cX8_isHere 72 = .ok (.iconst 0, 1) := by decide +kernel
theorem dX8_isHere_73 : decode cX8_isHere 73 = .ok (.ireturn, 1) := by decide +kernel
theorem dX8_isHere_74 : decode cX8_isHere 74 = .ok (.iconst 0, 1) := by decide +kernel
theorem dX8_isHere_75 : decode cX8_isHere 75 = .ok (.istore_n 3, 1) := by decide +kernel
theorem dX8_isHere_76 : decode cX8_isHere 76 = .ok (.iload_n 3, 1) := by decide +kernel
theorem dX8_isHere_77 : decode cX8_isHere 77 = .ok (.aload_n 1, 1) := by decide +kernel
theorem dX8_isHere_78 : decode cX8_isHere 78 = .ok (.arraylength, 1) := by decide +kernel
theorem dX8_isHere_79 : decode cX8_isHere 79 = .ok (.if_icmp .ge 28, 3) := by decide +kernel
theorem dX8_isHere_82 : decode cX8_isHere 82 = .ok (.aload_n 0, 1) := by decide +kernel
theorem dX8_isHere_83 : decode cX8_isHere 83 = .ok (.getfield 7, 3) := by decide +kernel
theorem dX8_isHere_86 : decode cX8_isHere 86 = .ok (.aload_n 0, 1) := by decide +kernel
theorem dX8_isHere_87 : decode cX8_isHere 87 = .ok (.getfield 255, 3) := by decide +kernel
theorem dX8_isHere_90 : decode cX8_isHere 90 = .ok (.iload_n 3, 1) := by decide +kernel
theorem dX8_isHere_91 : decode cX8_isHere 91 = .ok (.iadd, 1) := by decide +kernel
theorem dX8_isHere_92 : decode cX8_isHere 92 = .ok (.iaload, 1) := by decide +kernel
theorem dX8_isHere_93 : decode cX8_isHere 93 = .ok (.aload_n 1, 1) := by decide +kernel
theorem dX8_isHere_94 : decode cX8_isHere 94 = .ok (.iload_n 3, 1) := by decide +kernel
theorem dX8_isHere_95 : decode cX8_isHere 95 = .ok (.caload, 1) := by decide +kernel
theorem dX8_isHere_96 : decode cX8_isHere 96 = .ok (.if_icmp .eq 5, 3) := by decide +kernel
theorem dX8_isHere_99 : decode cX8_isHere 99 = .ok (.iconst 0, 1) := by decide +kernel
theorem dX8_isHere_100 : decode cX8_isHere 100 = .ok (.ireturn, 1) := by decide +kernel
theorem dX8_isHere_101 : decode cX8_isHere 101 = .ok (.iinc 3 1, 3) := by decide +kernel
theorem dX8_isHere_104 : decode cX8_isHere 104 = .ok (.goto (-28), 3) := by decide +kernel
theorem dX8_isHere_107 : decode cX8_isHere 107 = .ok (.iconst 1, 1) := by decide +kernel
theorem dX8_isHere_108 : decode cX8_isHere 108 = .ok (.ireturn, 1) := by decide +kernel
theorem dX8_takes_0 : decode cX8_takes 0 = .ok (.aload_n 0, 1) := by decide +kernel
theorem dX8_takes_1 : decode cX8_takes 1 = .ok (.aload_n 1, 1) := by decide +kernel
theorem dX8_takes_2 : decode cX8_takes 2 = .ok (.invokevirtual 272, 3) := by decide +kernel
theorem dX8_takes_5 : decode cX8_takes 5 = .ok (.ifCond .ne 5, 3) := by decide +kernel
theorem dX8_takes_8 : decode cX8_takes 8 = .ok (.iconst 0, 1) := by decide +kernel
theorem dX8_takes_9 : decode cX8_takes 9 = .ok (.ireturn, 1) := by decide +kernel
theorem dX8_takes_10 : decode cX8_takes 10 = .ok (.aload_n 0, 1) := by decide +kernel
theorem dX8_takes_11 : decode cX8_takes 11 = .ok (.dup, 1) := by decide +kernel
theorem dX8_takes_12 : decode cX8_takes 12 = .ok (.getfield 255, 3) := by decide +kernel
theorem dX8_takes_15 : decode cX8_takes 15 = .ok (.aload_n 1, 1) := by decide +kernel
theorem dX8_takes_16 : decode cX8_takes 16 = .ok (.arraylength, 1) := by decide +kernel
theorem dX8_takes_17 : decode cX8_takes 17 = .ok (.iadd, 1) := by decide +kernel
theorem dX8_takes_18 : decode cX8_takes 18 = .ok (.putfield 255, 3) := by decide +kernel
theorem dX8_takes_21 : decode cX8_takes 21 = .ok (.aload_n 0, 1) := by decide +kernel
theorem dX8_takes_22 : decode cX8_takes 22 = .ok (.aload_n 0, 1) := by decide +kernel
theorem dX8_takes_23 : decode cX8_takes 23 = .ok (.getfield 255, 3) := by decide +kernel
theorem dX8_takes_26 : decode cX8_takes 26 = .ok (.putfield 269, 3) := by decide +kernel
theorem dX8_takes_29 : decode cX8_takes 29 = .ok (.iconst 1, 1) := by decide +kernel
theorem dX8_takes_30 : decode cX8_takes 30 = .ok (.ireturn, 1) := by decide +kernel
theorem dX8_asks_0 : decode cX8_asks 0 = .ok (.aload_n 0, 1) := by decide +kernel
theorem dX8_asks_1 : decode cX8_asks 1 = .ok (.getfield 249, 3) := by decide +kernel
theorem dX8_asks_4 : decode cX8_asks 4 = .ok (.ifCond .ne 20, 3) := by decide +kernel
theorem dX8_asks_7 : decode cX8_asks 7 = .ok (.aload_n 0, 1) := by decide +kernel
theorem dX8_asks_8 : decode cX8_asks 8 = .ok (.aload_n 1, 1) := by decide +kernel
theorem dX8_asks_9 : decode cX8_asks 9 = .ok (.invokevirtual 276, 3) := by decide +kernel
theorem dX8_asks_12 : decode cX8_asks 12 = .ok (.ifCond .ne 12, 3) := by decide +kernel
theorem dX8_asks_15 : decode cX8_asks 15 = .ok (.aload_n 0, 1) := by decide +kernel
theorem dX8_asks_16 : decode cX8_asks 16 = .ok (.iconst 1, 1) := by decide +kernel
theorem dX8_asks_17 : decode cX8_asks 17 = .ok (.aload_n 0, 1) := by decide +kernel
theorem dX8_asks_18 : decode cX8_asks 18 = .ok (.getfield 255, 3) := by decide +kernel
theorem dX8_asks_21 : decode cX8_asks 21 = .ok (.invokevirtual 279, 3) := by decide +kernel
theorem dX8_asks_24 : decode cX8_asks 24 = .ok (.return_, 1) := by decide +kernel
theorem dX8_takesSign_0 : decode cX8_takesSign 0 = .ok (.aload_n 0, 1) := by decide +kernel
theorem dX8_takesSign_1 : decode cX8_takesSign 1 = .ok (.getfield 249, 3) := by decide +kernel
theorem dX8_takesSign_4 : decode cX8_takesSign 4 = .ok (.ifCond .ne 11, 3) := by decide +kernel
theorem dX8_takesSign_7 : decode cX8_takesSign 7 = .ok (.aload_n 0, 1) := by decide +kernel
theorem dX8_takesSign_8 : decode cX8_takesSign 8 = .ok (.invokevirtual 261, 3) := by decide +kernel
theorem dX8_takesSign_11 : decode cX8_takesSign 11 = .ok (.iload_n 1, 1) := by decide +kernel
theorem dX8_takesSign_12 : decode cX8_takesSign 12 = .ok (.if_icmp .eq 5, 3) := by decide +kernel
theorem dX8_takesSign_15 : decode cX8_takesSign 15 = .ok (.iconst 0, 1) := by decide +kernel
theorem dX8_takesSign_16 : decode cX8_takesSign 16 = .ok (.ireturn, 1) := by decide +kernel
theorem dX8_takesSign_17 : decode cX8_takesSign 17 = .ok (.aload_n 0, 1) := by decide +kernel
theorem dX8_takesSign_18 : decode cX8_takesSign 18 = .ok (.dup, 1) := by decide +kernel
theorem dX8_takesSign_19 : decode cX8_takesSign 19 = .ok (.getfield 255, 3) := by decide +kernel
theorem dX8_takesSign_22 : decode cX8_takesSign 22 = .ok (.iconst 1, 1) := by decide +kernel
theorem dX8_takesSign_23 : decode cX8_takesSign 23 = .ok (.iadd, 1) := by decide +kernel
theorem dX8_takesSign_24 : decode cX8_takesSign 24 = .ok (.putfield 255, 3) := by decide +kernel
theorem dX8_takesSign_27 : decode cX8_takesSign 27 = .ok (.iconst 1, 1) := by decide +kernel
theorem dX8_takesSign_28 : decode cX8_takesSign 28 = .ok (.ireturn, 1) := by decide +kernel
theorem dX8_asksSign_0 : decode cX8_asksSign 0 = .ok (.aload_n 0, 1) := by decide +kernel
theorem dX8_asksSign_1 : decode cX8_asksSign 1 = .ok (.getfield 249, 3) := by decide +kernel
theorem dX8_asksSign_4 : decode cX8_asksSign 4 = .ok (.ifCond .ne 20, 3) := by decide +kernel
theorem dX8_asksSign_7 : decode cX8_asksSign 7 = .ok (.aload_n 0, 1) := by decide +kernel
theorem dX8_asksSign_8 : decode cX8_asksSign 8 = .ok (.iload_n 1, 1) := by decide +kernel
theorem dX8_asksSign_9 : decode cX8_asksSign 9 = .ok (.invokevirtual 283, 3) := by decide +kernel
theorem dX8_asksSign_12 : decode cX8_asksSign 12 = .ok (.ifCond .ne 12, 3) := by decide +kernel
theorem dX8_asksSign_15 : decode cX8_asksSign 15 = .ok (.aload_n 0, 1) := by decide +kernel
theorem dX8_asksSign_16 : decode cX8_asksSign 16 = .ok (.iconst 1, 1) := by decide +kernel
theorem dX8_asksSign_17 : decode cX8_asksSign 17 = .ok (.aload_n 0, 1) := by decide +kernel
theorem dX8_asksSign_18 : decode cX8_asksSign 18 = .ok (.getfield 255, 3) := by decide +kernel
theorem dX8_asksSign_21 : decode cX8_asksSign 21 = .ok (.invokevirtual 279, 3) := by decide +kernel
theorem dX8_asksSign_24 : decode cX8_asksSign 24 = .ok (.return_, 1) := by decide +kernel
theorem dX8_number_0 : decode cX8_number 0 = .ok (.aload_n 0, 1) := by decide +kernel
theorem dX8_number_1 : decode cX8_number 1 = .ok (.getfield 249, 3) := by decide +kernel
theorem dX8_number_4 : decode cX8_number 4 = .ok (.ifCond .eq 5, 3) := by decide +kernel
theorem dX8_number_7 : decode cX8_number 7 = .ok (.iconst 0, 1) := by decide +kernel
theorem dX8_number_8 : decode cX8_number 8 = .ok (.ireturn, 1) := by decide +kernel
theorem dX8_number_9 : decode cX8_number 9 = .ok (.aload_n 0, 1) := by decide +kernel
theorem dX8_number_10 : decode cX8_number 10 = .ok (.invokevirtual 261, 3) := by decide +kernel
theorem dX8_number_13 : decode cX8_number 13 = .ok (.invokestatic 286, 3) := by decide +kernel
theorem dX8_number_16 : decode cX8_number 16 = .ok (.ifCond .eq 14, 3) := by decide +kernel
theorem dX8_number_19 : decode cX8_number 19 = .ok (.aload_n 0, 1) := by decide +kernel
theorem dX8_number_20 : decode cX8_number 20 = .ok (.getfield 255, 3) := by decide +kernel
theorem dX8_number_23 : decode cX8_number 23 = .ok (.aload_n 0, 1) := by decide +kernel
theorem dX8_number_24 : decode cX8_number 24 = .ok (.getfield 269, 3) := by decide +kernel
theorem dX8_number_27 : decode cX8_number 27 = .ok (.if_icmp .ne 14, 3) := by decide +kernel
theorem dX8_number_30 : decode cX8_number 30 = .ok (.aload_n 0, 1) := by decide +kernel
theorem dX8_number_31 : decode cX8_number 31 = .ok (.iconst 1, 1) := by decide +kernel
theorem dX8_number_32 : decode cX8_number 32 = .ok (.aload_n 0, 1) := by decide +kernel
theorem dX8_number_33 : decode cX8_number 33 = .ok (.getfield 255, 3) := by decide +kernel
theorem dX8_number_36 : decode cX8_number 36 = .ok (.invokevirtual 279, 3) := by decide +kernel
theorem dX8_number_39 : decode cX8_number 39 = .ok (.iconst 0, 1) := by decide +kernel
theorem dX8_number_40 : decode cX8_number 40 = .ok (.ireturn, 1) := by decide +kernel
theorem dX8_number_41 : decode cX8_number 41 = .ok (.aload_n 0, 1) := by decide +kernel
theorem dX8_number_42 : decode cX8_number 42 = .ok (.getfield 255, 3) := by decide +kernel
theorem dX8_number_45 : decode cX8_number 45 = .ok (.istore_n 3, 1) := by decide +kernel
theorem dX8_number_46 : decode cX8_number 46 = .ok (.iconst 0, 1) := by decide +kernel
theorem dX8_number_47 : decode cX8_number 47 = .ok (.istore 4, 2) := by decide +kernel
theorem dX8_number_49 : decode cX8_number 49 = .ok (.aload_n 0, 1) := by decide +kernel
theorem dX8_number_50 : decode cX8_number 50 = .ok (.getfield 255, 3) := by decide +kernel
theorem dX8_number_53 : decode cX8_number 53 = .ok (.aload_n 0, 1) := by decide +kernel
theorem dX8_number_54 : decode cX8_number 54 = .ok (.getfield 258, 3) := by decide +kernel
theorem dX8_number_57 : decode cX8_number 57 = .ok (.if_icmp .ge 72, 3) := by decide +kernel
theorem dX8_number_60 : decode cX8_number 60 = .ok (.aload_n 0, 1) := by decide +kernel
theorem dX8_number_61 : decode cX8_number 61 = .ok (.getfield 7, 3) := by decide +kernel
theorem dX8_number_64 : decode cX8_number 64 = .ok (.aload_n 0, 1) := by decide +kernel
theorem dX8_number_65 : decode cX8_number 65 = .ok (.getfield 255, 3) := by decide +kernel
theorem dX8_number_68 : decode cX8_number 68 = .ok (.iaload, 1) := by decide +kernel
theorem dX8_number_69 : decode cX8_number 69 = .ok (.invokestatic 286, 3) := by decide +kernel
theorem dX8_number_72 : decode cX8_number 72 = .ok (.ifCond .eq 57, 3) := by decide +kernel
theorem dX8_number_75 : decode cX8_number 75 = .ok (.aload_n 0, 1) := by decide +kernel
theorem dX8_number_76 : decode cX8_number 76 = .ok (.getfield 255, 3) := by decide +kernel
theorem dX8_number_79 : decode cX8_number 79 = .ok (.iload_n 3, 1) := by decide +kernel
theorem dX8_number_80 : decode cX8_number 80 = .ok (.isub, 1) := by decide +kernel
theorem dX8_number_81 : decode cX8_number 81 = .ok (.iconst 4, 1) := by decide +kernel
theorem dX8_number_82 : decode cX8_number 82 = .ok (.if_icmp .ne 14, 3) := by decide +kernel
theorem dX8_number_85 : decode cX8_number 85 = .ok (.aload_n 0, 1) := by decide +kernel
theorem dX8_number_86 : decode cX8_number 86 = .ok (.iconst 1, 1) := by decide +kernel
theorem dX8_number_87 : decode cX8_number 87 = .ok (.aload_n 0, 1) := by decide +kernel
theorem dX8_number_88 : decode cX8_number 88 = .ok (.getfield 255, 3) := by decide +kernel
theorem dX8_number_91 : decode cX8_number 91 = .ok (.invokevirtual 279, 3) := by decide +kernel
theorem dX8_number_94 : decode cX8_number 94 = .ok (.iconst 0, 1) := by decide +kernel
theorem dX8_number_95 : decode cX8_number 95 = .ok (.ireturn, 1) := by decide +kernel
theorem dX8_number_96 : decode cX8_number 96 = .ok (.bipush 10, 2) := by decide +kernel
theorem dX8_number_98 : decode cX8_number 98 = .ok (.iload 4, 2) := by decide +kernel
theorem dX8_number_100 : decode cX8_number 100 = .ok (.imul, 1) := by decide +kernel
theorem dX8_number_101 : decode cX8_number 101 = .ok (.aload_n 0, 1) := by decide +kernel
theorem dX8_number_102 : decode cX8_number 102 = .ok (.getfield 7, 3) := by decide +kernel
theorem dX8_number_105 : decode cX8_number 105 = .ok (.aload_n 0, 1) := by decide +kernel
theorem dX8_number_106 : decode cX8_number 106 = .ok (.getfield 255, 3) := by decide +kernel
theorem dX8_number_109 : decode cX8_number 109 = .ok (.iaload, 1) := by decide +kernel
theorem dX8_number_110 : decode cX8_number 110 = .ok (.iadd, 1) := by decide +kernel
theorem dX8_number_111 : decode cX8_number 111 = .ok (.bipush 48, 2) := by decide +kernel
theorem dX8_number_113 : decode cX8_number 113 = .ok (.isub, 1) := by decide +kernel
theorem dX8_number_114 : decode cX8_number 114 = .ok (.istore 4, 2) := by decide +kernel
theorem dX8_number_116 : decode cX8_number 116 = .ok (.aload_n 0, 1) := by decide +kernel
theorem dX8_number_117 : decode cX8_number 117 = .ok (.dup, 1) := by decide +kernel
theorem dX8_number_118 : decode cX8_number 118 = .ok (.getfield 255, 3) := by decide +kernel
theorem dX8_number_121 : decode cX8_number 121 = .ok (.iconst 1, 1) := by decide +kernel
theorem dX8_number_122 : decode cX8_number 122 = .ok (.iadd, 1) := by decide +kernel
theorem dX8_number_123 : decode cX8_number 123 = .ok (.putfield 255, 3) := by decide +kernel
theorem dX8_number_126 : decode cX8_number 126 = .ok (.goto (-77), 3) := by decide +kernel
theorem dX8_number_129 : decode cX8_number 129 = .ok (.aload_n 0, 1) := by decide +kernel
theorem dX8_number_130 : decode cX8_number 130 = .ok (.aload_n 0, 1) := by decide +kernel
theorem dX8_number_131 : decode cX8_number 131 = .ok (.getfield 255, 3) := by decide +kernel
theorem dX8_number_134 : decode cX8_number 134 = .ok (.putfield 269, 3) := by decide +kernel
theorem dX8_number_137 : decode cX8_number 137 = .ok (.iload 4, 2) := by decide +kernel
theorem dX8_number_139 : decode cX8_number 139 = .ok (.i2l, 1) := by decide +kernel
theorem dX8_number_140 : decode cX8_number 140 = .ok (.iload_n 1, 1) := by decide +kernel
theorem dX8_number_141 : decode cX8_number 141 = .ok (.i2l, 1) := by decide +kernel
theorem dX8_number_142 : decode cX8_number 142 = .ok (.iload_n 2, 1) := by decide +kernel
theorem dX8_number_143 : decode cX8_number 143 = .ok (.i2l, 1) := by decide +kernel
theorem dX8_number_144 : decode cX8_number 144 = .ok (.invokestatic 289, 3) := by decide +kernel
theorem dX8_number_147 : decode cX8_number 147 = .ok (.ifCond .ne 9, 3) := by decide +kernel
theorem dX8_number_150 : decode cX8_number 150 = .ok (.aload_n 0, 1) := by decide +kernel
theorem dX8_number_151 : decode cX8_number 151 = .ok (.iconst 2, 1) := by decide +kernel
theorem dX8_number_152 : decode cX8_number 152 = .ok (.iload_n 3, 1) := by decide +kernel
theorem dX8_number_153 : decode cX8_number 153 = .ok (.invokevirtual 279, 3) := by decide +kernel
theorem dX8_number_156 : decode cX8_number 156 = .ok (.iload 4, 2) := by decide +kernel
theorem dX8_number_158 : decode cX8_number 158 = .ok (.ireturn, 1) := by decide +kernel
theorem dX8_isOwnHere_0 : decode cX8_isOwnHere 0 = .ok (.aload_n 0, 1) := by decide +kernel
theorem dX8_isOwnHere_1 : decode cX8_isOwnHere 1 = .ok (.aload_n 0, 1) := by decide +kernel
theorem dX8_isOwnHere_2 : decode cX8_isOwnHere 2 = .ok (.getfield 20, 3) := by decide +kernel
theorem dX8_isOwnHere_5 : decode cX8_isOwnHere 5 = .ok (.invokevirtual 272, 3) := by decide +kernel
theorem dX8_isOwnHere_8 : decode cX8_isOwnHere 8 = .ok (.ifCond .ne 58, 3) := by decide +kernel
theorem dX8_isOwnHere_11 : decode cX8_isOwnHere 11 = .ok (.aload_n 0, 1) := by decide +kernel
theorem dX8_isOwnHere_12 : decode cX8_isOwnHere 12 = .ok (.aload_n 0, 1) := by decide +kernel
theorem dX8_isOwnHere_13 : decode cX8_isOwnHere 13 = .ok (.getfield 24, 3) := by decide +kernel
theorem dX8_isOwnHere_16 : decode cX8_isOwnHere 16 = .ok (.invokevirtual 272, 3) := by decide +kernel
theorem dX8_isOwnHere_19 : decode cX8_isOwnHere 19 = .ok (.ifCond .ne 47, 3) := by decide +kernel
theorem dX8_isOwnHere_22 : decode cX8_isOwnHere 22 = .ok (.aload_n 0, 1) := by decide +kernel
theorem dX8_isOwnHere_23 : decode cX8_isOwnHere 23 = .ok (.aload_n 0, 1) := by decide +kernel
theorem dX8_isOwnHere_24 : decode cX8_isOwnHere 24 = .ok (.getfield 27, 3) := by decide +kernel
theorem dX8_isOwnHere_27 : decode cX8_isOwnHere 27 = .ok (.invokevirtual 272, 3) := by decide +kernel
theorem dX8_isOwnHere_30 : decode cX8_isOwnHere 30 = .ok (.ifCond .ne 36, 3) := by decide +kernel
theorem dX8_isOwnHere_33 : decode cX8_isOwnHere 33 = .ok (.aload_n 0, 1) := by decide +kernel
theorem dX8_isOwnHere_34 : decode cX8_isOwnHere 34 = .ok (.aload_n 0, 1) := by decide +kernel
theorem dX8_isOwnHere_35 : decode cX8_isOwnHere 35 = .ok (.getfield 30, 3) := by decide +kernel
theorem dX8_isOwnHere_38 : decode cX8_isOwnHere 38 = .ok (.invokevirtual 272, 3) := by decide +kernel
theorem dX8_isOwnHere_41 : decode cX8_isOwnHere 41 = .ok (.ifCond .ne 25, 3) := by decide +kernel
theorem dX8_isOwnHere_44 : decode cX8_isOwnHere 44 = .ok (.aload_n 0, 1) := by decide +kernel
theorem dX8_isOwnHere_45 : decode cX8_isOwnHere 45 = .ok (.aload_n 0, 1) := by decide +kernel
theorem dX8_isOwnHere_46 : decode cX8_isOwnHere 46 = .ok (.getfield 33, 3) := by decide +kernel
theorem dX8_isOwnHere_49 : decode cX8_isOwnHere 49 = .ok (.invokevirtual 272, 3) := by decide +kernel
theorem dX8_isOwnHere_52 : decode cX8_isOwnHere 52 = .ok (.ifCond .ne 14, 3) := by decide +kernel
theorem dX8_isOwnHere_55 : decode cX8_isOwnHere 55 = .ok (.aload_n 0, 1) := by decide +kernel
theorem dX8_isOwnHere_56 : decode cX8_isOwnHere 56 = .ok (.aload_n 0, 1) := by decide +kernel
theorem dX8_isOwnHere_57 : decode cX8_isOwnHere 57 = .ok (.getfield 36, 3) := by decide +kernel
theorem dX8_isOwnHere_60 : decode cX8_isOwnHere 60 = .ok (.invokevirtual 272, 3) := by decide +kernel
theorem dX8_isOwnHere_63 : decode cX8_isOwnHere 63 = .ok (.ifCond .eq 7, 3) := by decide +kernel
theorem dX8_isOwnHere_66 : decode cX8_isOwnHere 66 = .ok (.iconst 1, 1) := by decide +kernel
theorem dX8_isOwnHere_67 : decode cX8_isOwnHere 67 = .ok (.goto 4, 3) := by decide +kernel
theorem dX8_isOwnHere_70 : decode cX8_isOwnHere 70 = .ok (.iconst 0, 1) := by decide +kernel
theorem dX8_isOwnHere_71 : decode cX8_isOwnHere 71 = .ok (.istore_n 1, 1) := by decide +kernel
theorem dX8_isOwnHere_72 : decode cX8_isOwnHere 72 = .ok (.iload_n 1, 1) := by decide +kernel
theorem dX8_isOwnHere_73 : decode cX8_isOwnHere 73 = .ok (.ifCond .ne 69, 3) := by decide +kernel
theorem dX8_isOwnHere_76 : decode cX8_isOwnHere 76 = .ok (.aload_n 0, 1) := by decide +kernel
theorem dX8_isOwnHere_77 : decode cX8_isOwnHere 77 = .ok (.aload_n 0, 1) := by decide +kernel
theorem dX8_isOwnHere_78 : decode cX8_isOwnHere 78 = .ok (.getfield 39, 3) := by decide +kernel
theorem dX8_isOwnHere_81 : decode cX8_isOwnHere 81 = .ok (.invokevirtual 272, 3) := by decide +kernel
theorem dX8_isOwnHere_84 : decode cX8_isOwnHere 84 = .ok (.ifCond .ne 58, 3) := by decide +kernel
theorem dX8_isOwnHere_87 : decode cX8_isOwnHere 87 = .ok (.aload_n 0, 1) := by decide +kernel
theorem dX8_isOwnHere_88 : decode cX8_isOwnHere 88 = .ok (.aload_n 0, 1) := by decide +kernel
theorem dX8_isOwnHere_89 : decode cX8_isOwnHere 89 = .ok (.getfield 42, 3) := by decide +kernel
theorem dX8_isOwnHere_92 : decode cX8_isOwnHere 92 = .ok (.invokevirtual 272, 3) := by decide +kernel
theorem dX8_isOwnHere_95 : decode cX8_isOwnHere 95 = .ok (.ifCond .ne 47, 3) := by decide +kernel
theorem dX8_isOwnHere_98 : decode cX8_isOwnHere 98 = .ok (.aload_n 0, 1) := by decide +kernel
theorem dX8_isOwnHere_99 : decode cX8_isOwnHere 99 = .ok (.aload_n 0, 1) := by decide +kernel
theorem dX8_isOwnHere_100 : decode cX8_isOwnHere 100 = .ok (.getfield 45, 3) := by decide +kernel
theorem dX8_isOwnHere_103 : decode cX8_isOwnHere 103 = .ok (.invokevirtual 272, 3) := by decide +kernel
theorem dX8_isOwnHere_106 : decode cX8_isOwnHere 106 = .ok (.ifCond .ne 36, 3) := by decide +kernel
theorem dX8_isOwnHere_109 : decode cX8_isOwnHere 109 = .ok (.aload_n 0, 1) := by decide +kernel
theorem dX8_isOwnHere_110 : decode cX8_isOwnHere 110 = .ok (.aload_n 0, 1) := by decide +kernel
theorem dX8_isOwnHere_111 : decode cX8_isOwnHere 111 = .ok (.getfield 48, 3) := by decide +kernel
theorem dX8_isOwnHere_114 : decode cX8_isOwnHere 114 = .ok (.invokevirtual 272, 3) := by decide +kernel
theorem dX8_isOwnHere_117 : decode cX8_isOwnHere 117 = .ok (.ifCond .ne 25, 3) := by decide +kernel
theorem dX8_isOwnHere_120 : decode cX8_isOwnHere 120 = .ok (.aload_n 0, 1) := by decide +kernel
theorem dX8_isOwnHere_121 : decode cX8_isOwnHere 121 = .ok (.aload_n 0, 1) := by decide +kernel
theorem dX8_isOwnHere_122 : decode cX8_isOwnHere 122 = .ok (.getfield 51, 3) := by decide +kernel
theorem dX8_isOwnHere_125 : decode cX8_isOwnHere 125 = .ok (.invokevirtual 272, 3) := by decide +kernel
theorem dX8_isOwnHere_128 : decode cX8_isOwnHere 128 = .ok (.ifCond .ne 14, 3) := by decide +kernel
theorem dX8_isOwnHere_131 : decode cX8_isOwnHere 131 = .ok (.aload_n 0, 1) := by decide +kernel
theorem dX8_isOwnHere_132 : decode cX8_isOwnHere 132 = .ok (.aload_n 0, 1) := by decide +kernel
theorem dX8_isOwnHere_133 : decode cX8_isOwnHere 133 = .ok (.getfield 54, 3) := by decide +kernel
theorem dX8_isOwnHere_136 : decode cX8_isOwnHere 136 = .ok (.invokevirtual 272, 3) := by decide +kernel
theorem dX8_isOwnHere_139 : decode cX8_isOwnHere 139 = .ok (.ifCond .eq 7, 3) := by decide +kernel
theorem dX8_isOwnHere_142 : decode cX8_isOwnHere 142 = .ok (.iconst 1, 1) := by decide +kernel
theorem dX8_isOwnHere_143 : decode cX8_isOwnHere 143 = .ok (.goto 4, 3) := by decide +kernel
theorem dX8_isOwnHere_146 : decode cX8_isOwnHere 146 = .ok (.iconst 0, 1) := by decide +kernel
theorem dX8_isOwnHere_147 : decode cX8_isOwnHere 147 = .ok (.istore_n 1, 1) := by decide +kernel
theorem dX8_isOwnHere_148 : decode cX8_isOwnHere 148 = .ok (.iload_n 1, 1) := by decide +kernel
theorem dX8_isOwnHere_149 : decode cX8_isOwnHere 149 = .ok (.ifCond .ne 69, 3) := by decide +kernel
theorem dX8_isOwnHere_152 : decode cX8_isOwnHere 152 = .ok (.aload_n 0, 1) := by decide +kernel
theorem dX8_isOwnHere_153 : decode cX8_isOwnHere 153 = .ok (.aload_n 0, 1) := by decide +kernel
theorem dX8_isOwnHere_154 : decode cX8_isOwnHere 154 = .ok (.getfield 57, 3) := by decide +kernel
theorem dX8_isOwnHere_157 : decode cX8_isOwnHere 157 = .ok (.invokevirtual 272, 3) := by decide +kernel
theorem dX8_isOwnHere_160 : decode cX8_isOwnHere 160 = .ok (.ifCond .ne 58, 3) := by decide +kernel
theorem dX8_isOwnHere_163 : decode cX8_isOwnHere 163 = .ok (.aload_n 0, 1) := by decide +kernel
theorem dX8_isOwnHere_164 : decode cX8_isOwnHere 164 = .ok (.aload_n 0, 1) := by decide +kernel
theorem dX8_isOwnHere_165 : decode cX8_isOwnHere 165 = .ok (.getfield 60, 3) := by decide +kernel
theorem dX8_isOwnHere_168 : decode cX8_isOwnHere 168 = .ok (.invokevirtual 272, 3) := by decide +kernel
theorem dX8_isOwnHere_171 : decode cX8_isOwnHere 171 = .ok (.ifCond .ne 47, 3) := by decide +kernel
theorem dX8_isOwnHere_174 : decode cX8_isOwnHere 174 = .ok (.aload_n 0, 1) := by decide +kernel
theorem dX8_isOwnHere_175 : decode cX8_isOwnHere 175 = .ok (.aload_n 0, 1) := by decide +kernel
theorem dX8_isOwnHere_176 : decode cX8_isOwnHere 176 = .ok (.getfield 63, 3) := by decide +kernel
theorem dX8_isOwnHere_179 : decode cX8_isOwnHere 179 = .ok (.invokevirtual 272, 3) := by decide +kernel
theorem dX8_isOwnHere_182 : decode cX8_isOwnHere 182 = .ok (.ifCond .ne 36, 3) := by decide +kernel
theorem dX8_isOwnHere_185 : decode cX8_isOwnHere 185 = .ok (.aload_n 0, 1) := by decide +kernel
theorem dX8_isOwnHere_186 : decode cX8_isOwnHere 186 = .ok (.aload_n 0, 1) := by decide +kernel
theorem dX8_isOwnHere_187 : decode cX8_isOwnHere 187 = .ok (.getfield 66, 3) := by decide +kernel
theorem dX8_isOwnHere_190 : decode cX8_isOwnHere 190 = .ok (.invokevirtual 272, 3) := by decide +kernel
theorem dX8_isOwnHere_193 : decode cX8_isOwnHere 193 = .ok (.ifCond .ne 25, 3) := by decide +kernel
theorem dX8_isOwnHere_196 : decode cX8_isOwnHere 196 = .ok (.aload_n 0, 1) := by decide +kernel
theorem dX8_isOwnHere_197 : decode cX8_isOwnHere 197 = .ok (.aload_n 0, 1) := by decide +kernel
theorem dX8_isOwnHere_198 : decode cX8_isOwnHere 198 = .ok (.getfield 69, 3) := by decide +kernel
theorem dX8_isOwnHere_201 : decode cX8_isOwnHere 201 = .ok (.invokevirtual 272, 3) := by decide +kernel
theorem dX8_isOwnHere_204 : decode cX8_isOwnHere 204 = .ok (.ifCond .ne 14, 3) := by decide +kernel
theorem dX8_isOwnHere_207 : decode cX8_isOwnHere 207 = .ok (.aload_n 0, 1) := by decide +kernel
theorem dX8_isOwnHere_208 : decode cX8_isOwnHere 208 = .ok (.aload_n 0, 1) := by decide +kernel
theorem dX8_isOwnHere_209 : decode cX8_isOwnHere 209 = .ok (.getfield 72, 3) := by decide +kernel
theorem dX8_isOwnHere_212 : decode cX8_isOwnHere 212 = .ok (.invokevirtual 272, 3) := by decide +kernel
theorem dX8_isOwnHere_215 : decode cX8_isOwnHere 215 = .ok (.ifCond .eq 7, 3) := by decide +kernel
theorem dX8_isOwnHere_218 : decode cX8_isOwnHere 218 = .ok (.iconst 1, 1) := by decide +kernel
theorem dX8_isOwnHere_219 : decode cX8_isOwnHere 219 = .ok (.goto 4, 3) := by decide +kernel
theorem dX8_isOwnHere_222 : decode cX8_isOwnHere 222 = .ok (.iconst 0, 1) := by decide +kernel
theorem dX8_isOwnHere_223 : decode cX8_isOwnHere 223 = .ok (.istore_n 1, 1) := by decide +kernel
theorem dX8_isOwnHere_224 : decode cX8_isOwnHere 224 = .ok (.iload_n 1, 1) := by decide +kernel
theorem dX8_isOwnHere_225 : decode cX8_isOwnHere 225 = .ok (.ifCond .ne 69, 3) := by decide +kernel
theorem dX8_isOwnHere_228 : decode cX8_isOwnHere 228 = .ok (.aload_n 0, 1) := by decide +kernel
theorem dX8_isOwnHere_229 : decode cX8_isOwnHere 229 = .ok (.aload_n 0, 1) := by decide +kernel
theorem dX8_isOwnHere_230 : decode cX8_isOwnHere 230 = .ok (.getfield 75, 3) := by decide +kernel
theorem dX8_isOwnHere_233 : decode cX8_isOwnHere 233 = .ok (.invokevirtual 272, 3) := by decide +kernel
theorem dX8_isOwnHere_236 : decode cX8_isOwnHere 236 = .ok (.ifCond .ne 58, 3) := by decide +kernel
theorem dX8_isOwnHere_239 : decode cX8_isOwnHere 239 = .ok (.aload_n 0, 1) := by decide +kernel
theorem dX8_isOwnHere_240 : decode cX8_isOwnHere 240 = .ok (.aload_n 0, 1) := by decide +kernel
theorem dX8_isOwnHere_241 : decode cX8_isOwnHere 241 = .ok (.getfield 78, 3) := by decide +kernel
theorem dX8_isOwnHere_244 : decode cX8_isOwnHere 244 = .ok (.invokevirtual 272, 3) := by decide +kernel
theorem dX8_isOwnHere_247 : decode cX8_isOwnHere 247 = .ok (.ifCond .ne 47, 3) := by decide +kernel
theorem dX8_isOwnHere_250 : decode cX8_isOwnHere 250 = .ok (.aload_n 0, 1) := by decide +kernel
theorem dX8_isOwnHere_251 : decode cX8_isOwnHere 251 = .ok (.aload_n 0, 1) := by decide +kernel
theorem dX8_isOwnHere_252 : decode cX8_isOwnHere 252 = .ok (.getfield 81, 3) := by decide +kernel
theorem dX8_isOwnHere_255 : decode cX8_isOwnHere 255 = .ok (.invokevirtual 272, 3) := by decide +kernel
theorem dX8_isOwnHere_258 : decode cX8_isOwnHere 258 = .ok (.ifCond .ne 36, 3) := by decide +kernel
theorem dX8_isOwnHere_261 : decode cX8_isOwnHere 261 = .ok (.aload_n 0, 1) := by decide +kernel
theorem dX8_isOwnHere_262 : decode cX8_isOwnHere 262 = .ok (.aload_n 0, 1) := by decide +kernel
theorem dX8_isOwnHere_263 : decode cX8_isOwnHere 263 = .ok (.getfield 84, 3) := by decide +kernel
theorem dX8_isOwnHere_266 : decode cX8_isOwnHere 266 = .ok (.invokevirtual 272, 3) := by decide +kernel
theorem dX8_isOwnHere_269 : decode cX8_isOwnHere 269 = .ok (.ifCond .ne 25, 3) := by decide +kernel
theorem dX8_isOwnHere_272 : decode cX8_isOwnHere 272 = .ok (.aload_n 0, 1) := by decide +kernel
theorem dX8_isOwnHere_273 : decode cX8_isOwnHere 273 = .ok (.aload_n 0, 1) := by decide +kernel
theorem dX8_isOwnHere_274 : decode cX8_isOwnHere 274 = .ok (.getfield 87, 3) := by decide +kernel
theorem dX8_isOwnHere_277 : decode cX8_isOwnHere 277 = .ok (.invokevirtual 272, 3) := by decide +kernel
theorem dX8_isOwnHere_280 : decode cX8_isOwnHere 280 = .ok (.ifCond .ne 14, 3) := by decide +kernel
theorem dX8_isOwnHere_283 : decode cX8_isOwnHere 283 = .ok (.aload_n 0, 1) := by decide +kernel
theorem dX8_isOwnHere_284 : decode cX8_isOwnHere 284 = .ok (.aload_n 0, 1) := by decide +kernel
theorem dX8_isOwnHere_285 : decode cX8_isOwnHere 285 = .ok (.getfield 90, 3) := by decide +kernel
theorem dX8_isOwnHere_288 : decode cX8_isOwnHere 288 = .ok (.invokevirtual 272, 3) := by decide +kernel
theorem dX8_isOwnHere_291 : decode cX8_isOwnHere 291 = .ok (.ifCond .eq 7, 3) := by decide +kernel
theorem dX8_isOwnHere_294 : decode cX8_isOwnHere 294 = .ok (.iconst 1, 1) := by decide +kernel
theorem dX8_isOwnHere_295 : decode cX8_isOwnHere 295 = .ok (.goto 4, 3) := by decide +kernel
theorem dX8_isOwnHere_298 : decode cX8_isOwnHere 298 = .ok (.iconst 0, 1) := by decide +kernel
theorem dX8_isOwnHere_299 : decode cX8_isOwnHere 299 = .ok (.istore_n 1, 1) := by decide +kernel
theorem dX8_isOwnHere_300 : decode cX8_isOwnHere 300 = .ok (.iload_n 1, 1) := by decide +kernel
theorem dX8_isOwnHere_301 : decode cX8_isOwnHere 301 = .ok (.ifCond .ne 47, 3) := by decide +kernel
theorem dX8_isOwnHere_304 : decode cX8_isOwnHere 304 = .ok (.aload_n 0, 1) := by decide +kernel
theorem dX8_isOwnHere_305 : decode cX8_isOwnHere 305 = .ok (.aload_n 0, 1) := by decide +kernel
theorem dX8_isOwnHere_306 : decode cX8_isOwnHere 306 = .ok (.getfield 93, 3) := by decide +kernel
theorem dX8_isOwnHere_309 : decode cX8_isOwnHere 309 = .ok (.invokevirtual 272, 3) := by decide +kernel
theorem dX8_isOwnHere_312 : decode cX8_isOwnHere 312 = .ok (.ifCond .ne 36, 3) := by decide +kernel
theorem dX8_isOwnHere_315 : decode cX8_isOwnHere 315 = .ok (.aload_n 0, 1) := by decide +kernel
theorem dX8_isOwnHere_316 : decode cX8_isOwnHere 316 = .ok (.aload_n 0, 1) := by decide +kernel
theorem dX8_isOwnHere_317 : decode cX8_isOwnHere 317 = .ok (.getfield 96, 3) := by decide +kernel
theorem dX8_isOwnHere_320 : decode cX8_isOwnHere 320 = .ok (.invokevirtual 272, 3) := by decide +kernel
theorem dX8_isOwnHere_323 : decode cX8_isOwnHere 323 = .ok (.ifCond .ne 25, 3) := by decide +kernel
theorem dX8_isOwnHere_326 : decode cX8_isOwnHere 326 = .ok (.aload_n 0, 1) := by decide +kernel
theorem dX8_isOwnHere_327 : decode cX8_isOwnHere 327 = .ok (.aload_n 0, 1) := by decide +kernel
theorem dX8_isOwnHere_328 : decode cX8_isOwnHere 328 = .ok (.getfield 99, 3) := by decide +kernel
theorem dX8_isOwnHere_331 : decode cX8_isOwnHere 331 = .ok (.invokevirtual 272, 3) := by decide +kernel
theorem dX8_isOwnHere_334 : decode cX8_isOwnHere 334 = .ok (.ifCond .ne 14, 3) := by decide +kernel
theorem dX8_isOwnHere_337 : decode cX8_isOwnHere 337 = .ok (.aload_n 0, 1) := by decide +kernel
theorem dX8_isOwnHere_338 : decode cX8_isOwnHere 338 = .ok (.aload_n 0, 1) := by decide +kernel
theorem dX8_isOwnHere_339 : decode cX8_isOwnHere 339 = .ok (.getfield 102, 3) := by decide +kernel
theorem dX8_isOwnHere_342 : decode cX8_isOwnHere 342 = .ok (.invokevirtual 272, 3) := by decide +kernel
theorem dX8_isOwnHere_345 : decode cX8_isOwnHere 345 = .ok (.ifCond .eq 7, 3) := by decide +kernel
theorem dX8_isOwnHere_348 : decode cX8_isOwnHere 348 = .ok (.iconst 1, 1) := by decide +kernel
theorem dX8_isOwnHere_349 : decode cX8_isOwnHere 349 = .ok (.goto 4, 3) := by decide +kernel
theorem dX8_isOwnHere_352 : decode cX8_isOwnHere 352 = .ok (.iconst 0, 1) := by decide +kernel
theorem dX8_isOwnHere_353 : decode cX8_isOwnHere 353 = .ok (.istore_n 1, 1) := by decide +kernel
theorem dX8_isOwnHere_354 : decode cX8_isOwnHere 354 = .ok (.iload_n 1, 1) := by decide +kernel
theorem dX8_isOwnHere_355 : decode cX8_isOwnHere 355 = .ok (.ireturn, 1) := by decide +kernel
theorem dX8_name_0 : decode cX8_name 0 = .ok (.aload_n 0, 1) := by decide +kernel
theorem dX8_name_1 : decode cX8_name 1 = .ok (.getfield 249, 3) := by decide +kernel
theorem dX8_name_4 : decode cX8_name 4 = .ok (.ifCond .eq 5, 3) := by decide +kernel
theorem dX8_name_7 : decode cX8_name 7 = .ok (.lconst 0, 1) := by decide +kernel
theorem dX8_name_8 : decode cX8_name 8 = .ok (.lreturn, 1) := by decide +kernel
theorem dX8_name_9 : decode cX8_name 9 = .ok (.aload_n 0, 1) := by decide +kernel
theorem dX8_name_10 : decode cX8_name 10 = .ok (.invokevirtual 261, 3) := by decide +kernel
theorem dX8_name_13 : decode cX8_name 13 = .ok (.invokestatic 265, 3) := by decide +kernel
theorem dX8_name_16 : decode cX8_name 16 = .ok (.ifCond .eq 21, 3) := by decide +kernel
theorem dX8_name_19 : decode cX8_name 19 = .ok (.aload_n 0, 1) := by decide +kernel
theorem dX8_name_20 : decode cX8_name 20 = .ok (.getfield 255, 3) := by decide +kernel
theorem dX8_name_23 : decode cX8_name 23 = .ok (.aload_n 0, 1) := by decide +kernel
theorem dX8_name_24 : decode cX8_name 24 = .ok (.getfield 269, 3) := by decide +kernel
theorem dX8_name_27 : decode cX8_name 27 = .ok (.if_icmp .eq 10, 3) := by decide +kernel
theorem dX8_name_30 : decode cX8_name 30 = .ok (.aload_n 0, 1) := by decide +kernel
theorem dX8_name_31 : decode cX8_name 31 = .ok (.invokevirtual 293, 3) := by decide +kernel
theorem dX8_name_34 : decode cX8_name 34 = .ok (.ifCond .eq 14, 3) := by decide +kernel
theorem dX8_name_37 : decode cX8_name 37 = .ok (.aload_n 0, 1) := by decide +kernel
theorem dX8_name_38 : decode cX8_name 38 = .ok (.iconst 1, 1) := by decide +kernel
theorem dX8_name_39 : decode cX8_name 39 = .ok (.aload_n 0, 1) := by decide +kernel
theorem dX8_name_40 : decode cX8_name 40 = .ok (.getfield 255, 3) := by decide +kernel
theorem dX8_name_43 : decode cX8_name 43 = .ok (.invokevirtual 279, 3) := by decide +kernel
theorem dX8_name_46 : decode cX8_name 46 = .ok (.lconst 0, 1) := by decide +kernel
theorem dX8_name_47 : decode cX8_name 47 = .ok (.lreturn, 1) := by decide +kernel
theorem dX8_name_48 : decode cX8_name 48 = .ok (.aload_n 0, 1) := by decide +kernel
theorem dX8_name_49 : decode cX8_name 49 = .ok (.aload_n 0, 1) := by decide +kernel
theorem dX8_name_50 : decode cX8_name 50 = .ok (.getfield 255, 3) := by decide +kernel
theorem dX8_name_53 : decode cX8_name 53 = .ok (.putfield 297, 3) := by decide +kernel
theorem dX8_name_56 : decode cX8_name 56 = .ok (.lconst 0, 1) := by decide +kernel
theorem dX8_name_57 : decode cX8_name 57 = .ok (.lstore_n 1, 1) := by decide +kernel
theorem dX8_name_58 : decode cX8_name 58 = .ok (.aload_n 0, 1) := by decide +kernel
theorem dX8_name_59 : decode cX8_name 59 = .ok (.getfield 255, 3) := by decide +kernel
theorem dX8_name_62 : decode cX8_name 62 = .ok (.aload_n 0, 1) := by decide +kernel
theorem dX8_name_63 : decode cX8_name 63 = .ok (.getfield 258, 3) := by decide +kernel
theorem dX8_name_66 : decode cX8_name 66 = .ok (.if_icmp .ge 79, 3) := by decide +kernel
theorem dX8_name_69 : decode cX8_name 69 = .ok (.aload_n 0, 1) := by decide +kernel
theorem dX8_name_70 : decode cX8_name 70 = .ok (.getfield 7, 3) := by decide +kernel
theorem dX8_name_73 : decode cX8_name 73 = .ok (.aload_n 0, 1) := by decide +kernel
theorem dX8_name_74 : decode cX8_name 74 = .ok (.getfield 255, 3) := by decide +kernel
theorem dX8_name_77 : decode cX8_name 77 = .ok (.iaload, 1) := by decide +kernel
theorem dX8_name_78 : decode cX8_name 78 = .ok (.invokestatic 265, 3) := by decide +kernel
theorem dX8_name_81 : decode cX8_name 81 = .ok (.ifCond .eq 64, 3) := by decide +kernel
theorem dX8_name_84 : decode cX8_name 84 = .ok (.aload_n 0, 1) := by decide +kernel
theorem dX8_name_85 : decode cX8_name 85 = .ok (.getfield 255, 3) := by decide +kernel
theorem dX8_name_88 : decode cX8_name 88 = .ok (.aload_n 0, 1) := by decide +kernel
theorem dX8_name_89 : decode cX8_name 89 = .ok (.getfield 297, 3) := by decide +kernel
theorem dX8_name_92 : decode cX8_name 92 = .ok (.isub, 1) := by decide +kernel
theorem dX8_name_93 : decode cX8_name 93 = .ok (.bipush 6, 2) := by decide +kernel
theorem dX8_name_95 : decode cX8_name 95 = .ok (.if_icmp .ne 14, 3) := by decide +kernel
theorem dX8_name_98 : decode cX8_name 98 = .ok (.aload_n 0, 1) := by decide +kernel
theorem dX8_name_99 : decode cX8_name 99 = .ok (.iconst 1, 1) := by decide +kernel
theorem dX8_name_100 : decode cX8_name 100 = .ok (.aload_n 0, 1) := by decide +kernel
theorem dX8_name_101 : decode cX8_name 101 = .ok (.getfield 255, 3) := by decide +kernel
theorem dX8_name_104 : decode cX8_name 104 = .ok (.invokevirtual 279, 3) := by decide +kernel
theorem dX8_name_107 : decode cX8_name 107 = .ok (.lconst 0, 1) := by decide +kernel
theorem dX8_name_108 : decode cX8_name 108 = .ok (.lreturn, 1) := by decide +kernel
theorem dX8_name_109 : decode cX8_name 109 = .ok (.ldc2_w 300, 3) := by decide +kernel
theorem dX8_name_112 : decode cX8_name 112 = .ok (.lload_n 1, 1) := by decide +kernel
theorem dX8_name_113 : decode cX8_name 113 = .ok (.lmul, 1) := by decide +kernel
theorem dX8_name_114 : decode cX8_name 114 = .ok (.aload_n 0, 1) := by decide +kernel
theorem dX8_name_115 : decode cX8_name 115 = .ok (.getfield 7, 3) := by decide +kernel
theorem dX8_name_118 : decode cX8_name 118 = .ok (.aload_n 0, 1) := by decide +kernel
theorem dX8_name_119 : decode cX8_name 119 = .ok (.getfield 255, 3) := by decide +kernel
theorem dX8_name_122 : decode cX8_name 122 = .ok (.iaload, 1) := by decide +kernel
theorem dX8_name_123 : decode cX8_name 123 = .ok (.i2l, 1) := by decide +kernel
theorem dX8_name_124 : decode cX8_name 124 = .ok (.ladd, 1) := by decide +kernel
theorem dX8_name_125 : decode cX8_name 125 = .ok (.ldc2_w 302, 3) := by decide +kernel
theorem dX8_name_128 : decode cX8_name 128 = .ok (.lsub, 1) := by decide +kernel
theorem dX8_name_129 : decode cX8_name 129 = .ok (.lconst 1, 1) := by decide +kernel
theorem dX8_name_130 : decode cX8_name 130 = .ok (.ladd, 1) := by decide +kernel
theorem dX8_name_131 : decode cX8_name 131 = .ok (.lstore_n 1, 1) := by decide +kernel
theorem dX8_name_132 : decode cX8_name 132 = .ok (.aload_n 0, 1) := by decide +kernel
theorem dX8_name_133 : decode cX8_name 133 = .ok (.dup, 1) := by decide +kernel
theorem dX8_name_134 : decode cX8_name 134 = .ok (.getfield 255, 3) := by decide +kernel
theorem dX8_name_137 : decode cX8_name 137 = .ok (.iconst 1, 1) := by decide +kernel
theorem dX8_name_138 : decode cX8_name 138 = .ok (.iadd, 1) := by decide +kernel
theorem dX8_name_139 : decode cX8_name 139 = .ok (.putfield 255, 3) := by decide +kernel
theorem dX8_name_142 : decode cX8_name 142 = .ok (.goto (-84), 3) := by decide +kernel
theorem dX8_name_145 : decode cX8_name 145 = .ok (.aload_n 0, 1) := by decide +kernel
theorem dX8_name_146 : decode cX8_name 146 = .ok (.aload_n 0, 1) := by decide +kernel
theorem dX8_name_147 : decode cX8_name 147 = .ok (.getfield 255, 3) := by decide +kernel
theorem dX8_name_150 : decode cX8_name 150 = .ok (.putfield 269, 3) := by decide +kernel
theorem dX8_name_153 : decode cX8_name 153 = .ok (.lload_n 1, 1) := by decide +kernel
theorem dX8_name_154 : decode cX8_name 154 = .ok (.lreturn, 1) := by decide +kernel
theorem dX8_isAllowed_0 : decode cX8_isAllowed 0 = .ok (.aload_n 0, 1) := by decide +kernel
theorem dX8_isAllowed_1 : decode cX8_isAllowed 1 = .ok (.getfield 304, 3) := by decide +kernel
theorem dX8_isAllowed_4 : decode cX8_isAllowed 4 = .ok (.iconst 2, 1) := by decide +kernel
theorem dX8_isAllowed_5 : decode cX8_isAllowed 5 = .ok (.if_icmp .eq 20, 3) := by decide +kernel
theorem dX8_isAllowed_8 : decode cX8_isAllowed 8 = .ok (.iload_n 1, 1) := by decide +kernel
theorem dX8_isAllowed_9 : decode cX8_isAllowed 9 = .ok (.aload_n 0, 1) := by decide +kernel
theorem dX8_isAllowed_10 : decode cX8_isAllowed 10 = .ok (.getfield 304, 3) := by decide +kernel
theorem dX8_isAllowed_13 : decode cX8_isAllowed 13 = .ok (.ifCond .ne 7, 3) := by decide +kernel
theorem dX8_isAllowed_16 : decode cX8_isAllowed 16 = .ok (.iconst 5, 1) := by decide +kernel
theorem dX8_isAllowed_17 : decode cX8_isAllowed 17 = .ok (.goto 5, 3) := by decide +kernel
theorem dX8_isAllowed_20 : decode cX8_isAllowed 20 = .ok (.bipush 7, 2) := by decide +kernel
theorem dX8_isAllowed_22 : decode cX8_isAllowed 22 = .ok (.if_icmp .ge 7, 3) := by decide +kernel
theorem dX8_isAllowed_25 : decode cX8_isAllowed 25 = .ok (.iconst 1, 1) := by decide +kernel
theorem dX8_isAllowed_26 : decode cX8_isAllowed 26 = .ok (.goto 4, 3) := by decide +kernel
theorem dX8_isAllowed_29 : decode cX8_isAllowed 29 = .ok (.iconst 0, 1) := by decide +kernel
theorem dX8_isAllowed_30 : decode cX8_isAllowed 30 = .ok (.ireturn, 1) := by decide +kernel
theorem dX8_isFull_0 : decode cX8_isFull 0 = .ok (.aload_n 0, 1) := by decide +kernel
theorem dX8_isFull_1 : decode cX8_isFull 1 = .ok (.getfield 249, 3) := by decide +kernel
theorem dX8_isFull_4 : decode cX8_isFull 4 = .ok (.ifCond .ne 19, 3) := by decide +kernel
theorem dX8_isFull_7 : decode cX8_isFull 7 = .ok (.aload_n 0, 1) := by decide +kernel
theorem dX8_isFull_8 : decode cX8_isFull 8 = .ok (.getfield 108, 3) := by decide +kernel
theorem dX8_isFull_11 : decode cX8_isFull 11 = .ok (.iload_n 1, 1) := by decide +kernel
theorem dX8_isFull_12 : decode cX8_isFull 12 = .ok (.iaload, 1) := by decide +kernel
theorem dX8_isFull_13 : decode cX8_isFull 13 = .ok (.iload_n 2, 1) := by decide +kernel
theorem dX8_isFull_14 : decode cX8_isFull 14 = .ok (.if_icmp .ne 9, 3) := by decide +kernel
theorem dX8_isFull_17 : decode cX8_isFull 17 = .ok (.aload_n 0, 1) := by decide +kernel
theorem dX8_isFull_18 : decode cX8_isFull 18 = .ok (.iconst 5, 1) := by decide +kernel
theorem dX8_isFull_19 : decode cX8_isFull 19 = .ok (.iload_n 3, 1) := by decide +kernel
theorem dX8_isFull_20 : decode cX8_isFull 20 = .ok (.invokevirtual 279, 3) := by decide +kernel
theorem dX8_isFull_23 : decode cX8_isFull 23 = .ok (.aload_n 0, 1) := by decide +kernel
theorem dX8_isFull_24 : decode cX8_isFull 24 = .ok (.getfield 249, 3) := by decide +kernel
theorem dX8_isFull_27 : decode cX8_isFull 27 = .ok (.ifCond .eq 7, 3) := by decide +kernel
theorem dX8_isFull_30 : decode cX8_isFull 30 = .ok (.iconst 1, 1) := by decide +kernel
theorem dX8_isFull_31 : decode cX8_isFull 31 = .ok (.goto 4, 3) := by decide +kernel
theorem dX8_isFull_34 : decode cX8_isFull 34 = .ok (.iconst 0, 1) := by decide +kernel
theorem dX8_isFull_35 : decode cX8_isFull 35 = .ok (.ireturn, 1) := by decide +kernel
theorem dX8_newName_0 : decode cX8_newName 0 = .ok (.aload_n 0, 1) := by decide +kernel
theorem dX8_newName_1 : decode cX8_newName 1 = .ok (.invokevirtual 307, 3) := by decide +kernel
theorem dX8_newName_4 : decode cX8_newName 4 = .ok (.lstore_n 1, 1) := by decide +kernel
theorem dX8_newName_5 : decode cX8_newName 5 = .ok (.iconst 0, 1) := by decide +kernel
theorem dX8_newName_6 : decode cX8_newName 6 = .ok (.istore_n 3, 1) := by decide +kernel
theorem dX8_newName_7 : decode cX8_newName 7 = .ok (.iload_n 3, 1) := by decide +kernel
theorem dX8_newName_8 : decode cX8_newName 8 = .ok (.iconst 3, 1) := by decide +kernel
theorem dX8_newName_9 : decode cX8_newName 9 = .ok (.if_icmp .ge 62, 3) := by decide +kernel
theorem dX8_newName_12 : decode cX8_newName 12 = .ok (.iconst 0, 1) := by decide +kernel
theorem dX8_newName_13 : decode cX8_newName 13 = .ok (.istore 4, 2) := by decide +kernel
theorem dX8_newName_15 : decode cX8_newName 15 = .ok (.iload 4, 2) := by decide +kernel
theorem dX8_newName_17 : decode cX8_newName 17 = .ok (.aload_n 0, 1) := by decide +kernel
theorem dX8_newName_18 : decode cX8_newName 18 = .ok (.getfield 108, 3) := by decide +kernel
theorem dX8_newName_21 : decode cX8_newName 21 = .ok (.iload_n 3, 1) := by decide +kernel
theorem dX8_newName_22 : decode cX8_newName 22 = .ok (.iaload, 1) := by decide +kernel
theorem dX8_newName_23 : decode cX8_newName 23 = .ok (.if_icmp .ge 42, 3) := by decide +kernel
theorem dX8_newName_26 : decode cX8_newName 26 = .ok (.aload_n 0, 1) := by decide +kernel
theorem dX8_newName_27 : decode cX8_newName 27 = .ok (.getfield 249, 3) := by decide +kernel
theorem dX8_newName_30 : decode cX8_newName 30 = .ok (.ifCond .ne 29, 3) := by decide +kernel
theorem dX8_newName_33 : decode cX8_newName 33 = .ok (.aload_n 0, 1) := by decide +kernel
theorem dX8_newName_34 : decode cX8_newName 34 = .ok (.getfield 111, 3) := by decide +kernel
theorem dX8_newName_37 : decode cX8_newName 37 = .ok (.bipush 8, 2) := by decide +kernel
theorem dX8_newName_39 : decode cX8_newName 39 = .ok (.iload_n 3, 1) := by decide +kernel
theorem dX8_newName_40 : decode cX8_newName 40 = .ok (.imul, 1) := by decide +kernel
theorem dX8_newName_41 : decode cX8_newName 41 = .ok (.iload 4, 2) := by decide +kernel
theorem dX8_newName_43 : decode cX8_newName 43 = .ok (.iadd, 1) := by decide +kernel
theorem dX8_newName_44 : decode cX8_newName 44 = .ok (.laload, 1) := by decide +kernel
theorem dX8_newName_45 : decode cX8_newName 45 = .ok (.lload_n 1, 1) := by decide +kernel
theorem dX8_newName_46 : decode cX8_newName 46 = .ok (.lcmp, 1) := by decide +kernel
theorem dX8_newName_47 : decode cX8_newName 47 = .ok (.ifCond .ne 12, 3) := by decide +kernel
theorem dX8_newName_50 : decode cX8_newName 50 = .ok (.aload_n 0, 1) := by decide +kernel
theorem dX8_newName_51 : decode cX8_newName 51 = .ok (.iconst 3, 1) := by decide +kernel
theorem dX8_newName_52 : decode cX8_newName 52 = .ok (.aload_n 0, 1) := by decide +kernel
theorem dX8_newName_53 : decode cX8_newName 53 = .ok (.getfield 297, 3) := by decide +kernel
theorem dX8_newName_56 : decode cX8_newName 56 = .ok (.invokevirtual 279, 3) := by decide +kernel
theorem dX8_newName_59 : decode cX8_newName 59 = .ok (.iinc 4 1, 3) := by decide +kernel
theorem dX8_newName_62 : decode cX8_newName 62 = .ok (.goto (-47), 3) := by decide +kernel
theorem dX8_newName_65 : decode cX8_newName 65 = .ok (.iinc 3 1, 3) := by decide +kernel
theorem dX8_newName_68 : decode cX8_newName 68 = .ok (.goto (-61), 3) := by decide +kernel
theorem dX8_newName_71 : decode cX8_newName 71 = .ok (.lload_n 1, 1) := by decide +kernel
theorem dX8_newName_72 : decode cX8_newName 72 = .ok (.lreturn, 1) := by decide +kernel
theorem dX8_songNamed_0 : decode cX8_songNamed 0 = .ok (.aload_n 0, 1) := by decide +kernel
theorem dX8_songNamed_1 : decode cX8_songNamed 1 = .ok (.invokevirtual 307, 3) := by decide +kernel
theorem dX8_songNamed_4 : decode cX8_songNamed 4 = .ok (.lstore_n 1, 1) := by decide +kernel
theorem dX8_songNamed_5 : decode cX8_songNamed 5 = .ok (.iconst 0, 1) := by decide +kernel
theorem dX8_songNamed_6 : decode cX8_songNamed 6 = .ok (.istore_n 3, 1) := by decide +kernel
theorem dX8_songNamed_7 : decode cX8_songNamed 7 = .ok (.iload_n 3, 1) := by decide +kernel
theorem dX8_songNamed_8 : decode cX8_songNamed 8 = .ok (.aload_n 0, 1) := by decide +kernel
theorem dX8_songNamed_9 : decode cX8_songNamed 9 = .ok (.getfield 108, 3) := by decide +kernel
theorem dX8_songNamed_12 : decode cX8_songNamed 12 = .ok (.iconst 0, 1) := by decide +kernel
theorem dX8_songNamed_13 : decode cX8_songNamed 13 = .ok (.iaload, 1) := by decide +kernel
theorem dX8_songNamed_14 : decode cX8_songNamed 14 = .ok (.if_icmp .ge 22, 3) := by decide +kernel
theorem dX8_songNamed_17 : decode cX8_songNamed 17 = .ok (.aload_n 0, 1) := by decide +kernel
theorem dX8_songNamed_18 : decode cX8_songNamed 18 = .ok (.getfield 111, 3) := by decide +kernel
theorem dX8_songNamed_21 : decode cX8_songNamed 21 = .ok (.iload_n 3, 1) := by decide +kernel
theorem dX8_songNamed_22 : decode cX8_songNamed 22 = .ok (.laload, 1) := by decide +kernel
theorem dX8_songNamed_23 : decode cX8_songNamed 23 = .ok (.lload_n 1, 1) := by decide +kernel
theorem dX8_songNamed_24 : decode cX8_songNamed 24 = .ok (.lcmp, 1) := by decide +kernel
theorem dX8_songNamed_25 : decode cX8_songNamed 25 = .ok (.ifCond .ne 5, 3) := by decide +kernel
theorem dX8_songNamed_28 : decode cX8_songNamed 28 = .ok (.iload_n 3, 1) := by decide +kernel
theorem dX8_songNamed_29 : decode cX8_songNamed 29 = .ok (.ireturn, 1) := by decide +kernel
theorem dX8_songNamed_30 : decode cX8_songNamed 30 = .ok (.iinc 3 1, 3) := by decide +kernel
theorem dX8_songNamed_33 : decode cX8_songNamed 33 = .ok (.goto (-26), 3) := by decide +kernel
theorem dX8_songNamed_36 : decode cX8_songNamed 36 = .ok (.aload_n 0, 1) := by decide +kernel
theorem dX8_songNamed_37 : decode cX8_songNamed 37 = .ok (.getfield 249, 3) := by decide +kernel
theorem dX8_songNamed_40 : decode cX8_songNamed 40 = .ok (.ifCond .ne 12, 3) := by decide +kernel
theorem dX8_songNamed_43 : decode cX8_songNamed 43 = .ok (.aload_n 0, 1) := by decide +kernel
theorem dX8_songNamed_44 : decode cX8_songNamed 44 = .ok (.iconst 3, 1) := by decide +kernel
theorem dX8_songNamed_45 : decode cX8_songNamed 45 = .ok (.aload_n 0, 1) := by decide +kernel
theorem dX8_songNamed_46 : decode cX8_songNamed 46 = .ok (.getfield 297, 3) := by decide +kernel
theorem dX8_songNamed_49 : decode cX8_songNamed 49 = .ok (.invokevirtual 279, 3) := by decide +kernel
theorem dX8_songNamed_52 : decode cX8_songNamed 52 = .ok (.iconst 0, 1) := by decide +kernel
theorem dX8_songNamed_53 : decode cX8_songNamed 53 = .ok (.ireturn, 1) := by decide +kernel
theorem dX8_adds_0 : decode cX8_adds 0 = .ok (.aload_n 0, 1) := by decide +kernel
theorem dX8_adds_1 : decode cX8_adds 1 = .ok (.getfield 111, 3) := by decide +kernel
theorem dX8_adds_4 : decode cX8_adds 4 = .ok (.bipush 8, 2) := by decide +kernel
theorem dX8_adds_6 : decode cX8_adds 6 = .ok (.iload_n 1, 1) := by decide +kernel
theorem dX8_adds_7 : decode cX8_adds 7 = .ok (.imul, 1) := by decide +kernel
theorem dX8_adds_8 : decode cX8_adds 8 = .ok (.aload_n 0, 1) := by decide +kernel
theorem dX8_adds_9 : decode cX8_adds 9 = .ok (.getfield 108, 3) := by decide +kernel
theorem dX8_adds_12 : decode cX8_adds 12 = .ok (.iload_n 1, 1) := by decide +kernel
theorem dX8_adds_13 : decode cX8_adds 13 = .ok (.iaload, 1) := by decide +kernel
theorem dX8_adds_14 : decode cX8_adds 14 = .ok (.iadd, 1) := by decide +kernel
theorem dX8_adds_15 : decode cX8_adds 15 = .ok (.lload_n 2, 1) := by decide +kernel
theorem dX8_adds_16 : decode cX8_adds 16 = .ok (.lastore, 1) := by decide +kernel
theorem dX8_adds_17 : decode cX8_adds 17 = .ok (.aload_n 0, 1) := by decide +kernel
theorem dX8_adds_18 : decode cX8_adds 18 = .ok (.getfield 108, 3) := by decide +kernel
theorem dX8_adds_21 : decode cX8_adds 21 = .ok (.iload_n 1, 1) := by decide +kernel
theorem dX8_adds_22 : decode cX8_adds 22 = .ok (.dup2, 1) := by decide +kernel
theorem dX8_adds_23 : decode cX8_adds 23 = .ok (.iaload, 1) := by decide +kernel
theorem dX8_adds_24 : decode cX8_adds 24 = .ok (.iconst 1, 1) := by decide +kernel
theorem dX8_adds_25 : decode cX8_adds 25 = .ok (.iadd, 1) := by decide +kernel
theorem dX8_adds_26 : decode cX8_adds 26 = .ok (.iastore, 1) := by decide +kernel
theorem dX8_adds_27 : decode cX8_adds 27 = .ok (.aload_n 0, 1) := by decide +kernel
theorem dX8_adds_28 : decode cX8_adds 28 = .ok (.getfield 108, 3) := by decide +kernel
theorem dX8_adds_31 : decode cX8_adds 31 = .ok (.iload_n 1, 1) := by decide +kernel
theorem dX8_adds_32 : decode cX8_adds 32 = .ok (.iaload, 1) := by decide +kernel
theorem dX8_adds_33 : decode cX8_adds 33 = .ok (.iconst 1, 1) := by decide +kernel
theorem dX8_adds_34 : decode cX8_adds 34 = .ok (.isub, 1) := by decide +kernel
theorem dX8_adds_35 : decode cX8_adds 35 = .ok (.ireturn, 1) := by decide +kernel
theorem dX8_hourTold_0 : decode cX8_hourTold 0 = .ok (.aload_n 0, 1) := by decide +kernel
theorem dX8_hourTold_1 : decode cX8_hourTold 1 = .ok (.aload_n 0, 1) := by decide +kernel
theorem dX8_hourTold_2 : decode cX8_hourTold 2 = .ok (.getfield 20, 3) := by decide +kernel
theorem dX8_hourTold_5 : decode cX8_hourTold 5 = .ok (.invokevirtual 311, 3) := by decide +kernel
theorem dX8_hourTold_8 : decode cX8_hourTold 8 = .ok (.aload_n 0, 1) := by decide +kernel
theorem dX8_hourTold_9 : decode cX8_hourTold 9 = .ok (.getfield 105, 3) := by decide +kernel
theorem dX8_hourTold_12 : decode cX8_hourTold 12 = .ok (.iconst 0, 1) := by decide +kernel
theorem dX8_hourTold_13 : decode cX8_hourTold 13 = .ok (.aload_n 0, 1) := by decide +kernel
theorem dX8_hourTold_14 : decode cX8_hourTold 14 = .ok (.iconst 1, 1) := by decide +kernel
theorem dX8_hourTold_15 : decode cX8_hourTold 15 = .ok (.bipush 60, 2) := by decide +kernel
theorem dX8_hourTold_17 : decode cX8_hourTold 17 = .ok (.invokevirtual 315, 3) := by decide +kernel
theorem dX8_hourTold_20 : decode cX8_hourTold 20 = .ok (.iastore, 1) := by decide +kernel
theorem dX8_hourTold_21 : decode cX8_hourTold 21 = .ok (.aload_n 0, 1) := by decide +kernel
theorem dX8_hourTold_22 : decode cX8_hourTold 22 = .ok (.bipush 59, 2) := by decide +kernel
theorem dX8_hourTold_24 : decode cX8_hourTold 24 = .ok (.invokevirtual 319, 3) := by decide +kernel
theorem dX8_hourTold_27 : decode cX8_hourTold 27 = .ok (.return_, 1) := by decide +kernel
theorem dX8_songTold_0 : decode cX8_songTold 0 = .ok (.aload_n 0, 1) := by decide +kernel
theorem dX8_songTold_1 : decode cX8_songTold 1 = .ok (.iconst 0, 1) := by decide +kernel
theorem dX8_songTold_2 : decode cX8_songTold 2 = .ok (.bipush 6, 2) := by decide +kernel
theorem dX8_songTold_4 : decode cX8_songTold 4 = .ok (.iload_n 1, 1) := by decide +kernel
theorem dX8_songTold_5 : decode cX8_songTold 5 = .ok (.invokevirtual 323, 3) := by decide +kernel
theorem dX8_songTold_8 : decode cX8_songTold 8 = .ok (.ifCond .eq 4, 3) := by decide +kernel
theorem dX8_songTold_11 : decode cX8_songTold 11 = .ok (.return_, 1) := by decide +kernel
theorem dX8_songTold_12 : decode cX8_songTold 12 = .ok (.aload_n 0, 1) := by decide +kernel
theorem dX8_songTold_13 : decode cX8_songTold 13 = .ok (.invokevirtual 327, 3) := by decide +kernel
theorem dX8_songTold_16 : decode cX8_songTold 16 = .ok (.lstore_n 2, 1) := by decide +kernel
theorem dX8_songTold_17 : decode cX8_songTold 17 = .ok (.aload_n 0, 1) := by decide +kernel
theorem dX8_songTold_18 : decode cX8_songTold 18 = .ok (.aload_n 0, 1) := by decide +kernel
theorem dX8_songTold_19 : decode cX8_songTold 19 = .ok (.getfield 27, 3) := by decide +kernel
theorem dX8_songTold_22 : decode cX8_songTold 22 = .ok (.invokevirtual 311, 3) := by decide +kernel
theorem dX8_songTold_25 : decode cX8_songTold 25 = .ok (.aload_n 0, 1) := by decide +kernel
theorem dX8_songTold_26 : decode cX8_songTold 26 = .ok (.iconst 1, 1) := by decide +kernel
theorem dX8_songTold_27 : decode cX8_songTold 27 = .ok (.bipush 60, 2) := by decide +kernel
theorem dX8_songTold_29 : decode cX8_songTold 29 = .ok (.invokevirtual 315, 3) := by decide +kernel
theorem dX8_songTold_32 : decode cX8_songTold 32 = .ok (.istore 4, 2) := by decide +kernel
theorem dX8_songTold_34 : decode cX8_songTold 34 = .ok (.aload_n 0, 1) := by decide +kernel
theorem dX8_songTold_35 : decode cX8_songTold 35 = .ok (.aload_n 0, 1) := by decide +kernel
theorem dX8_songTold_36 : decode cX8_songTold 36 = .ok (.getfield 30, 3) := by decide +kernel
theorem dX8_songTold_39 : decode cX8_songTold 39 = .ok (.invokevirtual 311, 3) := by decide +kernel
theorem dX8_songTold_42 : decode cX8_songTold 42 = .ok (.aload_n 0, 1) := by decide +kernel
theorem dX8_songTold_43 : decode cX8_songTold 43 = .ok (.iconst 0, 1) := by decide +kernel
theorem dX8_songTold_44 : decode cX8_songTold 44 = .ok (.bipush 9, 2) := by decide +kernel
theorem dX8_songTold_46 : decode cX8_songTold 46 = .ok (.invokevirtual 315, 3) := by decide +kernel
theorem dX8_songTold_49 : decode cX8_songTold 49 = .ok (.istore 5, 2) := by decide +kernel
theorem dX8_songTold_51 : decode cX8_songTold 51 = .ok (.aload_n 0, 1) := by decide +kernel
theorem dX8_songTold_52 : decode cX8_songTold 52 = .ok (.getfield 249, 3) := by decide +kernel
theorem dX8_songTold_55 : decode cX8_songTold 55 = .ok (.ifCond .eq 4, 3) := by decide +kernel
theorem dX8_songTold_58 : decode cX8_songTold 58 = .ok (.return_, 1) := by decide +kernel
theorem dX8_songTold_59 : decode cX8_songTold 59 = .ok (.iconst 2, 1) := by decide +kernel
theorem dX8_songTold_60 : decode cX8_songTold 60 = .ok (.aload_n 0, 1) := by decide +kernel
theorem dX8_songTold_61 : decode cX8_songTold 61 = .ok (.iconst 0, 1) := by decide +kernel
theorem dX8_songTold_62 : decode cX8_songTold 62 = .ok (.lload_n 2, 1) := by decide +kernel
theorem dX8_songTold_63 : decode cX8_songTold 63 = .ok (.invokevirtual 330, 3) := by decide +kernel
theorem dX8_songTold_66 : decode cX8_songTold 66 = .ok (.imul, 1) := by decide +kernel
theorem dX8_songTold_67 : decode cX8_songTold 67 = .ok (.istore 6, 2) := by decide +kernel
theorem dX8_songTold_69 : decode cX8_songTold 69 = .ok (.aload_n 0, 1) := by decide +kernel
theorem dX8_songTold_70 : decode cX8_songTold 70 = .ok (.getfield 115, 3) := by decide +kernel
theorem dX8_songTold_73 : decode cX8_songTold 73 = .ok (.iload 6, 2) := by decide +kernel
theorem dX8_songTold_75 : decode cX8_songTold 75 = .ok (.iload 4, 2) := by decide +kernel
theorem dX8_songTold_77 : decode cX8_songTold 77 = .ok (.iastore, 1) := by decide +kernel
theorem dX8_songTold_78 : decode cX8_songTold 78 = .ok (.aload_n 0, 1) := by decide +kernel
theorem dX8_songTold_79 : decode cX8_songTold 79 = .ok (.getfield 115, 3) := by decide +kernel
theorem dX8_songTold_82 : decode cX8_songTold 82 = .ok (.iload 6, 2) := by decide +kernel
theorem dX8_songTold_84 : decode cX8_songTold 84 = .ok (.iconst 1, 1) := by decide +kernel
theorem dX8_songTold_85 : decode cX8_songTold 85 = .ok (.iadd, 1) := by decide +kernel
theorem dX8_songTold_86 : decode cX8_songTold 86 = .ok (.iload 5, 2) := by decide +kernel
theorem dX8_songTold_88 : decode cX8_songTold 88 = .ok (.iastore, 1) := by decide +kernel
theorem dX8_songTold_89 : decode cX8_songTold 89 = .ok (.return_, 1) := by decide +kernel
theorem dX8_askerTold_0 : decode cX8_askerTold 0 = .ok (.aload_n 0, 1) := by decide +kernel
theorem dX8_askerTold_1 : decode cX8_askerTold 1 = .ok (.iconst 1, 1) := by decide +kernel
theorem dX8_askerTold_2 : decode cX8_askerTold 2 = .ok (.bipush 8, 2) := by decide +kernel
theorem dX8_askerTold_4 : decode cX8_askerTold 4 = .ok (.iload_n 1, 1) := by decide +kernel
theorem dX8_askerTold_5 : decode cX8_askerTold 5 = .ok (.invokevirtual 323, 3) := by decide +kernel
theorem dX8_askerTold_8 : decode cX8_askerTold 8 = .ok (.ifCond .eq 4, 3) := by decide +kernel
theorem dX8_askerTold_11 : decode cX8_askerTold 11 = .ok (.return_, 1) := by decide +kernel
theorem dX8_askerTold_12 : decode cX8_askerTold 12 = .ok (.aload_n 0, 1) := by decide +kernel
theorem dX8_askerTold_13 : decode cX8_askerTold 13 = .ok (.invokevirtual 327, 3) := by decide +kernel
theorem dX8_askerTold_16 : decode cX8_askerTold 16 = .ok (.lstore_n 2, 1) := by decide +kernel
theorem dX8_askerTold_17 : decode cX8_askerTold 17 = .ok (.aload_n 0, 1) := by decide +kernel
theorem dX8_askerTold_18 : decode cX8_askerTold 18 = .ok (.aload_n 0, 1) := by decide +kernel
theorem dX8_askerTold_19 : decode cX8_askerTold 19 = .ok (.getfield 36, 3) := by decide +kernel
theorem dX8_askerTold_22 : decode cX8_askerTold 22 = .ok (.invokevirtual 311, 3) := by decide +kernel
theorem dX8_askerTold_25 : decode cX8_askerTold 25 = .ok (.aload_n 0, 1) := by decide +kernel
theorem dX8_askerTold_26 : decode cX8_askerTold 26 = .ok (.invokevirtual 334, 3) := by decide +kernel
theorem dX8_askerTold_29 : decode cX8_askerTold 29 = .ok (.istore 4, 2) := by decide +kernel
theorem dX8_askerTold_31 : decode cX8_askerTold 31 = .ok (.aload_n 0, 1) := by decide +kernel
theorem dX8_askerTold_32 : decode cX8_askerTold 32 = .ok (.aload_n 0, 1) := by decide +kernel
theorem dX8_askerTold_33 : decode cX8_askerTold 33 = .ok (.getfield 39, 3) := by decide +kernel
theorem dX8_askerTold_36 : decode cX8_askerTold 36 = .ok (.invokevirtual 311, 3) := by decide +kernel
theorem dX8_askerTold_39 : decode cX8_askerTold 39 = .ok (.aload_n 0, 1) := by decide +kernel
theorem dX8_askerTold_40 : decode cX8_askerTold 40 = .ok (.iconst 0, 1) := by decide +kernel
theorem dX8_askerTold_41 : decode cX8_askerTold 41 = .ok (.bipush 99, 2) := by decide +kernel
theorem dX8_askerTold_43 : decode cX8_askerTold 43 = .ok (.invokevirtual 315, 3) := by decide +kernel
theorem dX8_askerTold_46 : decode cX8_askerTold 46 = .ok (.istore 5, 2) := by decide +kernel
theorem dX8_askerTold_48 : decode cX8_askerTold 48 = .ok (.aload_n 0, 1) := by decide +kernel
theorem dX8_askerTold_49 : decode cX8_askerTold 49 = .ok (.aload_n 0, 1) := by decide +kernel
theorem dX8_askerTold_50 : decode cX8_askerTold 50 = .ok (.getfield 42, 3) := by decide +kernel
theorem dX8_askerTold_53 : decode cX8_askerTold 53 = .ok (.invokevirtual 311, 3) := by decide +kernel
theorem dX8_askerTold_56 : decode cX8_askerTold 56 = .ok (.aload_n 0, 1) := by decide +kernel
theorem dX8_askerTold_57 : decode cX8_askerTold 57 = .ok (.iconst 0, 1) := by decide +kernel
theorem dX8_askerTold_58 : decode cX8_askerTold 58 = .ok (.bipush 99, 2) := by decide +kernel
theorem dX8_askerTold_60 : decode cX8_askerTold 60 = .ok (.invokevirtual 315, 3) := by decide +kernel
theorem dX8_askerTold_63 : decode cX8_askerTold 63 = .ok (.istore 6, 2) := by decide +kernel
theorem dX8_askerTold_65 : decode cX8_askerTold 65 = .ok (.aload_n 0, 1) := by decide +kernel
theorem dX8_askerTold_66 : decode cX8_askerTold 66 = .ok (.getfield 249, 3) := by decide +kernel
theorem dX8_askerTold_69 : decode cX8_askerTold 69 = .ok (.ifCond .eq 4, 3) := by decide +kernel
theorem dX8_askerTold_72 : decode cX8_askerTold 72 = .ok (.return_, 1) := by decide +kernel
theorem dX8_askerTold_73 : decode cX8_askerTold 73 = .ok (.iconst 3, 1) := by decide +kernel
theorem dX8_askerTold_74 : decode cX8_askerTold 74 = .ok (.aload_n 0, 1) := by decide +kernel
theorem dX8_askerTold_75 : decode cX8_askerTold 75 = .ok (.iconst 1, 1) := by decide +kernel
theorem dX8_askerTold_76 : decode cX8_askerTold 76 = .ok (.lload_n 2, 1) := by decide +kernel
theorem dX8_askerTold_77 : decode cX8_askerTold 77 = .ok (.invokevirtual 330, 3) := by decide +kernel
theorem dX8_askerTold_80 : decode cX8_askerTold 80 = .ok (.imul, 1) := by decide +kernel
theorem dX8_askerTold_81 : decode cX8_askerTold 81 = .ok (.istore 7, 2) := by decide +kernel
theorem dX8_askerTold_83 : decode cX8_askerTold 83 = .ok (.aload_n 0, 1) := by decide +kernel
theorem dX8_askerTold_84 : decode cX8_askerTold 84 = .ok (.getfield 118, 3) := by decide +kernel
theorem dX8_askerTold_87 : decode cX8_askerTold 87 = .ok (.iload 7, 2) := by decide +kernel
theorem dX8_askerTold_89 : decode cX8_askerTold 89 = .ok (.iload 4, 2) := by decide +kernel
theorem dX8_askerTold_91 : decode cX8_askerTold 91 = .ok (.iastore, 1) := by decide +kernel
theorem dX8_askerTold_92 : decode cX8_askerTold 92 = .ok (.aload_n 0, 1) := by decide +kernel
theorem dX8_askerTold_93 : decode cX8_askerTold 93 = .ok (.getfield 118, 3) := by decide +kernel
theorem dX8_askerTold_96 : decode cX8_askerTold 96 = .ok (.iload 7, 2) := by decide +kernel
theorem dX8_askerTold_98 : decode cX8_askerTold 98 = .ok (.iconst 1, 1) := by decide +kernel
theorem dX8_askerTold_99 : decode cX8_askerTold 99 = .ok (.iadd, 1) := by decide +kernel
theorem dX8_askerTold_100 : decode cX8_askerTold 100 = .ok (.iload 5, 2) := by decide +kernel
theorem dX8_askerTold_102 : decode cX8_askerTold 102 = .ok (.iastore, 1) := by decide +kernel
theorem dX8_askerTold_103 : decode cX8_askerTold 103 = .ok (.aload_n 0, 1) := by decide +kernel
theorem dX8_askerTold_104 : decode cX8_askerTold 104 = .ok (.getfield 118, 3) := by decide +kernel
theorem dX8_askerTold_107 : decode cX8_askerTold 107 = .ok (.iload 7, 2) := by decide +kernel
theorem dX8_askerTold_109 : decode cX8_askerTold 109 = .ok (.iconst 2, 1) := by decide +kernel
theorem dX8_askerTold_110 : decode cX8_askerTold 110 = .ok (.iadd, 1) := by decide +kernel
theorem dX8_askerTold_111 : decode cX8_askerTold 111 = .ok (.iload 6, 2) := by decide +kernel
theorem dX8_askerTold_113 : decode cX8_askerTold 113 = .ok (.iastore, 1) := by decide +kernel
theorem dX8_askerTold_114 : decode cX8_askerTold 114 = .ok (.return_, 1) := by decide +kernel
theorem dX8_earTold_0 : decode cX8_earTold 0 = .ok (.aload_n 0, 1) := by decide +kernel
theorem dX8_earTold_1 : decode cX8_earTold 1 = .ok (.iconst 2, 1) := by decide +kernel
theorem dX8_earTold_2 : decode cX8_earTold 2 = .ok (.iconst 5, 1) := by decide +kernel
theorem dX8_earTold_3 : decode cX8_earTold 3 = .ok (.iload_n 1, 1) := by decide +kernel
theorem dX8_earTold_4 : decode cX8_earTold 4 = .ok (.invokevirtual 323, 3) := by decide +kernel
theorem dX8_earTold_7 : decode cX8_earTold 7 = .ok (.ifCond .eq 4, 3) := by decide +kernel
theorem dX8_earTold_10 : decode cX8_earTold 10 = .ok (.return_, 1) := by decide +kernel
theorem dX8_earTold_11 : decode cX8_earTold 11 = .ok (.aload_n 0, 1) := by decide +kernel
theorem dX8_earTold_12 : decode cX8_earTold 12 = .ok (.invokevirtual 327, 3) := by decide +kernel
theorem dX8_earTold_15 : decode cX8_earTold 15 = .ok (.lstore_n 2, 1) := by decide +kernel
theorem dX8_earTold_16 : decode cX8_earTold 16 = .ok (.aload_n 0, 1) := by decide +kernel
theorem dX8_earTold_17 : decode cX8_earTold 17 = .ok (.aload_n 0, 1) := by decide +kernel
theorem dX8_earTold_18 : decode cX8_earTold 18 = .ok (.getfield 48, 3) := by decide +kernel
theorem dX8_earTold_21 : decode cX8_earTold 21 = .ok (.invokevirtual 311, 3) := by decide +kernel
theorem dX8_earTold_24 : decode cX8_earTold 24 = .ok (.aload_n 0, 1) := by decide +kernel
theorem dX8_earTold_25 : decode cX8_earTold 25 = .ok (.iconst 0, 1) := by decide +kernel
theorem dX8_earTold_26 : decode cX8_earTold 26 = .ok (.bipush 9, 2) := by decide +kernel
theorem dX8_earTold_28 : decode cX8_earTold 28 = .ok (.invokevirtual 315, 3) := by decide +kernel
theorem dX8_earTold_31 : decode cX8_earTold 31 = .ok (.istore 4, 2) := by decide +kernel
theorem dX8_earTold_33 : decode cX8_earTold 33 = .ok (.aload_n 0, 1) := by decide +kernel
theorem dX8_earTold_34 : decode cX8_earTold 34 = .ok (.getfield 249, 3) := by decide +kernel
theorem dX8_earTold_37 : decode cX8_earTold 37 = .ok (.ifCond .ne 16, 3) := by decide +kernel
theorem dX8_earTold_40 : decode cX8_earTold 40 = .ok (.aload_n 0, 1) := by decide +kernel
theorem dX8_earTold_41 : decode cX8_earTold 41 = .ok (.getfield 121, 3) := by decide +kernel
theorem dX8_earTold_44 : decode cX8_earTold 44 = .ok (.aload_n 0, 1) := by decide +kernel
theorem dX8_earTold_45 : decode cX8_earTold 45 = .ok (.iconst 2, 1) := by decide +kernel
theorem dX8_earTold_46 : decode cX8_earTold 46 = .ok (.lload_n 2, 1) := by decide +kernel
theorem dX8_earTold_47 : decode cX8_earTold 47 = .ok (.invokevirtual 330, 3) := by decide +kernel
theorem dX8_earTold_50 : decode cX8_earTold 50 = .ok (.iload 4, 2) := by decide +kernel
theorem dX8_earTold_52 : decode cX8_earTold 52 = .ok (.iastore, 1) := by decide +kernel
theorem dX8_earTold_53 : decode cX8_earTold 53 = .ok (.return_, 1) := by decide +kernel
theorem dX8_codesTold_0 : decode cX8_codesTold 0 = .ok (.aload_n 0, 1) := by decide +kernel
theorem dX8_codesTold_1 : decode cX8_codesTold 1 = .ok (.getfield 249, 3) := by decide +kernel
theorem dX8_codesTold_4 : decode cX8_codesTold 4 = .ok (.ifCond .ne 19, 3) := by decide +kernel
theorem dX8_codesTold_7 : decode cX8_codesTold 7 = .ok (.aload_n 0, 1) := by decide +kernel
theorem dX8_codesTold_8 : decode cX8_codesTold 8 = .ok (.getfield 124, 3) := by decide +kernel
theorem dX8_codesTold_11 : decode cX8_codesTold 11 = .ok (.iload_n 1, 1) := by decide +kernel
theorem dX8_codesTold_12 : decode cX8_codesTold 12 = .ok (.iaload, 1) := by decide +kernel
theorem dX8_codesTold_13 : decode cX8_codesTold 13 = .ok (.iconst (-1), 1) := by decide +kernel
theorem dX8_codesTold_14 : decode cX8_codesTold 14 = .ok (.if_icmp .eq 9, 3) := by decide +kernel
theorem dX8_codesTold_17 : decode cX8_codesTold 17 = .ok (.aload_n 0, 1) := by decide +kernel
theorem dX8_codesTold_18 : decode cX8_codesTold 18 = .ok (.iconst 5, 1) := by decide +kernel
theorem dX8_codesTold_19 : decode cX8_codesTold 19 = .ok (.iload_n 2, 1) := by decide +kernel
theorem dX8_codesTold_20 : decode cX8_codesTold 20 = .ok (.invokevirtual 279, 3) := by decide +kernel
theorem dX8_codesTold_23 : decode cX8_codesTold 23 = .ok (.aload_n 0, 1) := by decide +kernel
theorem dX8_codesTold_24 : decode cX8_codesTold 24 = .ok (.getfield 249, 3) := by decide +kernel
theorem dX8_codesTold_27 : decode cX8_codesTold 27 = .ok (.ifCond .eq 4, 3) := by decide +kernel
theorem dX8_codesTold_30 : decode cX8_codesTold 30 = .ok (.return_, 1) := by decide +kernel
theorem dX8_codesTold_31 : decode cX8_codesTold 31 = .ok (.aload_n 0, 1) := by decide +kernel
theorem dX8_codesTold_32 : decode cX8_codesTold 32 = .ok (.iload_n 1, 1) := by decide +kernel
theorem dX8_codesTold_33 : decode cX8_codesTold 33 = .ok (.ifCond .ne 7, 3) := by decide +kernel
theorem dX8_codesTold_36 : decode cX8_codesTold 36 = .ok (.iconst 0, 1) := by decide +kernel
theorem dX8_codesTold_37 : decode cX8_codesTold 37 = .ok (.goto 4, 3) := by decide +kernel
theorem dX8_codesTold_40 : decode cX8_codesTold 40 = .ok (.iconst 1, 1) := by decide +kernel
theorem dX8_codesTold_41 : decode cX8_codesTold 41 = .ok (.putfield 304, 3) := by decide +kernel
theorem dX8_codesTold_44 : decode cX8_codesTold 44 = .ok (.aload_n 0, 1) := by decide +kernel
theorem dX8_codesTold_45 : decode cX8_codesTold 45 = .ok (.iconst 0, 1) := by decide +kernel
theorem dX8_codesTold_46 : decode cX8_codesTold 46 = .ok (.putfield 337, 3) := by decide +kernel
theorem dX8_codesTold_49 : decode cX8_codesTold 49 = .ok (.aload_n 0, 1) := by decide +kernel
theorem dX8_codesTold_50 : decode cX8_codesTold 50 = .ok (.iconst 0, 1) := by decide +kernel
theorem dX8_codesTold_51 : decode cX8_codesTold 51 = .ok (.putfield 340, 3) := by decide +kernel
theorem dX8_codesTold_54 : decode cX8_codesTold 54 = .ok (.aload_n 0, 1) := by decide +kernel
theorem dX8_codesTold_55 : decode cX8_codesTold 55 = .ok (.iconst 0, 1) := by decide +kernel
theorem dX8_codesTold_56 : decode cX8_codesTold 56 = .ok (.putfield 343, 3) := by decide +kernel
theorem dX8_codesTold_59 : decode cX8_codesTold 59 = .ok (.aload_n 0, 1) := by decide +kernel
theorem dX8_codesTold_60 : decode cX8_codesTold 60 = .ok (.iconst 0, 1) := by decide +kernel
theorem dX8_codesTold_61 : decode cX8_codesTold 61 = .ok (.putfield 346, 3) := by decide +kernel
theorem dX8_codesTold_64 : decode cX8_codesTold 64 = .ok (.iload_n 1, 1) := by decide +kernel
theorem dX8_codesTold_65 : decode cX8_codesTold 65 = .ok (.iconst 1, 1) := by decide +kernel
theorem dX8_codesTold_66 : decode cX8_codesTold 66 = .ok (.if_icmp .ne 10, 3) := by decide +kernel
theorem dX8_codesTold_69 : decode cX8_codesTold 69 = .ok (.aload_n 0, 1) := by decide +kernel
theorem dX8_codesTold_70 : decode cX8_codesTold 70 = .ok (.invokevirtual 349, 3) := by decide +kernel
theorem dX8_codesTold_73 : decode cX8_codesTold 73 = .ok (.goto 7, 3) := by decide +kernel
theorem dX8_codesTold_76 : decode cX8_codesTold 76 = .ok (.aload_n 0, 1) := by decide +kernel
theorem dX8_codesTold_77 : decode cX8_codesTold 77 = .ok (.invokevirtual 352, 3) := by decide +kernel
theorem dX8_codesTold_80 : decode cX8_codesTold 80 = .ok (.aload_n 0, 1) := by decide +kernel
theorem dX8_codesTold_81 : decode cX8_codesTold 81 = .ok (.getfield 249, 3) := by decide +kernel
theorem dX8_codesTold_84 : decode cX8_codesTold 84 = .ok (.ifCond .eq 4, 3) := by decide +kernel
theorem dX8_codesTold_87 : decode cX8_codesTold 87 = .ok (.return_, 1) := by decide +kernel
theorem dX8_codesTold_88 : decode cX8_codesTold 88 = .ok (.aload_n 0, 1) := by decide +kernel
theorem dX8_codesTold_89 : decode cX8_codesTold 89 = .ok (.getfield 124, 3) := by decide +kernel
theorem dX8_codesTold_92 : decode cX8_codesTold 92 = .ok (.iload_n 1, 1) := by decide +kernel
theorem dX8_codesTold_93 : decode cX8_codesTold 93 = .ok (.aload_n 0, 1) := by decide +kernel
theorem dX8_codesTold_94 : decode cX8_codesTold 94 = .ok (.getfield 355, 3) := by decide +kernel
theorem dX8_codesTold_97 : decode cX8_codesTold 97 = .ok (.iastore, 1) := by decide +kernel
theorem dX8_codesTold_98 : decode cX8_codesTold 98 = .ok (.iconst 0, 1) := by decide +kernel
theorem dX8_codesTold_99 : decode cX8_codesTold 99 = .ok (.istore_n 3, 1) := by decide +kernel
theorem dX8_codesTold_100 : decode cX8_codesTold 100 = .ok (.iload_n 3, 1) := by decide +kernel
theorem dX8_codesTold_101 : decode cX8_codesTold 101 = .ok (.aload_n 0, 1) := by decide +kernel
theorem dX8_codesTold_102 : decode cX8_codesTold 102 = .ok (.getfield 337, 3) := by decide +kernel
theorem dX8_codesTold_105 : decode cX8_codesTold 105 = .ok (.if_icmp .ge 34, 3) := by decide +kernel
theorem dX8_codesTold_108 : decode cX8_codesTold 108 = .ok (.aload_n 0, 1) := by decide +kernel
theorem dX8_codesTold_109 : decode cX8_codesTold 109 = .ok (.getfield 130, 3) := by decide +kernel
theorem dX8_codesTold_112 : decode cX8_codesTold 112 = .ok (.aload_n 0, 1) := by decide +kernel
theorem dX8_codesTold_113 : decode cX8_codesTold 113 = .ok (.getfield 355, 3) := by decide +kernel
theorem dX8_codesTold_116 : decode cX8_codesTold 116 = .ok (.aload_n 0, 1) := by decide +kernel
theorem dX8_codesTold_117 : decode cX8_codesTold 117 = .ok (.getfield 234, 3) := by decide +kernel
theorem dX8_codesTold_120 : decode cX8_codesTold 120 = .ok (.iload_n 3, 1) := by decide +kernel
theorem dX8_codesTold_121 : decode cX8_codesTold 121 = .ok (.iaload, 1) := by decide +kernel
theorem dX8_codesTold_122 : decode cX8_codesTold 122 = .ok (.iastore, 1) := by decide +kernel
theorem dX8_codesTold_123 : decode cX8_codesTold 123 = .ok (.aload_n 0, 1) := by decide +kernel
theorem dX8_codesTold_124 : decode cX8_codesTold 124 = .ok (.dup, 1) := by decide +kernel
theorem dX8_codesTold_125 : decode cX8_codesTold 125 = .ok (.getfield 355, 3) := by decide +kernel
theorem dX8_codesTold_128 : decode cX8_codesTold 128 = .ok (.iconst 1, 1) := by decide +kernel
theorem dX8_codesTold_129 : decode cX8_codesTold 129 = .ok (.iadd, 1) := by decide +kernel
theorem dX8_codesTold_130 : decode cX8_codesTold 130 = .ok (.putfield 355, 3) := by decide +kernel
theorem dX8_codesTold_133 : decode cX8_codesTold 133 = .ok (.iinc 3 1, 3) := by decide +kernel
theorem dX8_codesTold_136 : decode cX8_codesTold 136 = .ok (.goto (-36), 3) := by decide +kernel
theorem dX8_codesTold_139 : decode cX8_codesTold 139 = .ok (.aload_n 0, 1) := by decide +kernel
theorem dX8_codesTold_140 : decode cX8_codesTold 140 = .ok (.getfield 127, 3) := by decide +kernel
theorem dX8_codesTold_143 : decode cX8_codesTold 143 = .ok (.iload_n 1, 1) := by decide +kernel
theorem dX8_codesTold_144 : decode cX8_codesTold 144 = .ok (.aload_n 0, 1) := by decide +kernel
theorem dX8_codesTold_145 : decode cX8_codesTold 145 = .ok (.getfield 355, 3) := by decide +kernel
theorem dX8_codesTold_148 : decode cX8_codesTold 148 = .ok (.iastore, 1) := by decide +kernel
theorem dX8_codesTold_149 : decode cX8_codesTold 149 = .ok (.return_, 1) := by decide +kernel
theorem dX8_statementTold_0 : decode cX8_statementTold 0 = .ok (.aload_n 0, 1) := by decide +kernel
theorem dX8_statementTold_1 : decode cX8_statementTold 1 = .ok (.getfield 255, 3) := by decide +kernel
theorem dX8_statementTold_4 : decode cX8_statementTold 4 = .ok (.istore_n 1, 1) := by decide +kernel
theorem dX8_statementTold_5 : decode cX8_statementTold 5 = .ok (.aload_n 0, 1) := by decide +kernel
theorem dX8_statementTold_6 : decode cX8_statementTold 6 = .ok (.getfield 358, 3) := by decide +kernel
theorem dX8_statementTold_9 : decode cX8_statementTold 9 = .ok (.bipush 80, 2) := by decide +kernel
theorem dX8_statementTold_11 : decode cX8_statementTold 11 = .ok (.if_icmp .ne 10, 3) := by decide +kernel
theorem dX8_statementTold_14 : decode cX8_statementTold 14 = .ok (.aload_n 0, 1) := by decide +kernel
theorem dX8_statementTold_15 : decode cX8_statementTold 15 = .ok (.iconst 5, 1) := by decide +kernel
theorem dX8_statementTold_16 : decode cX8_statementTold 16 = .ok (.iload_n 1, 1) := by decide +kernel
theorem dX8_statementTold_17 : decode cX8_statementTold 17 = .ok (.invokevirtual 279, 3) := by decide +kernel
theorem dX8_statementTold_20 : decode cX8_statementTold 20 = .ok (.return_, 1) := by decide +kernel
theorem dX8_statementTold_21 : decode cX8_statementTold 21 = .ok (.aload_n 0, 1) := by decide +kernel
theorem dX8_statementTold_22 : decode cX8_statementTold 22 = .ok (.aload_n 0, 1) := by decide +kernel
theorem dX8_statementTold_23 : decode cX8_statementTold 23 = .ok (.getfield 24, 3) := by decide +kernel
theorem dX8_statementTold_26 : decode cX8_statementTold 26 = .ok (.invokevirtual 276, 3) := by decide +kernel
theorem dX8_statementTold_29 : decode cX8_statementTold 29 = .ok (.ifCond .eq 11, 3) := by decide +kernel
theorem dX8_statementTold_32 : decode cX8_statementTold 32 = .ok (.aload_n 0, 1) := by decide +kernel
theorem dX8_statementTold_33 : decode cX8_statementTold 33 = .ok (.iload_n 1, 1) := by decide +kernel
theorem dX8_statementTold_34 : decode cX8_statementTold 34 = .ok (.invokevirtual 361, 3) := by decide +kernel
theorem dX8_statementTold_37 : decode cX8_statementTold 37 = .ok (.goto 150, 3) := by decide +kernel
theorem dX8_statementTold_40 : decode cX8_statementTold 40 = .ok (.aload_n 0, 1) := by decide +kernel
theorem dX8_statementTold_41 : decode cX8_statementTold 41 = .ok (.aload_n 0, 1) := by decide +kernel
theorem dX8_statementTold_42 : decode cX8_statementTold 42 = .ok (.getfield 33, 3) := by decide +kernel
theorem dX8_statementTold_45 : decode cX8_statementTold 45 = .ok (.invokevirtual 276, 3) := by decide +kernel
theorem dX8_statementTold_48 : decode cX8_statementTold 48 = .ok (.ifCond .eq 11, 3) := by decide +kernel
theorem dX8_statementTold_51 : decode cX8_statementTold 51 = .ok (.aload_n 0, 1) := by decide +kernel
theorem dX8_statementTold_52 : decode cX8_statementTold 52 = .ok (.iload_n 1, 1) := by decide +kernel
theorem dX8_statementTold_53 : decode cX8_statementTold 53 = .ok (.invokevirtual 364, 3) := by decide +kernel
theorem dX8_statementTold_56 : decode cX8_statementTold 56 = .ok (.goto 131, 3) := by decide +kernel
theorem dX8_statementTold_59 : decode cX8_statementTold 59 = .ok (.aload_n 0, 1) := by decide +kernel
theorem dX8_statementTold_60 : decode cX8_statementTold 60 = .ok (.aload_n 0, 1) := by decide +kernel
theorem dX8_statementTold_61 : decode cX8_statementTold 61 = .ok (.getfield 45, 3) := by decide +kernel
theorem dX8_statementTold_64 : decode cX8_statementTold 64 = .ok (.invokevirtual 276, 3) := by decide +kernel
theorem dX8_statementTold_67 : decode cX8_statementTold 67 = .ok (.ifCond .eq 11, 3) := by decide +kernel
theorem dX8_statementTold_70 : decode cX8_statementTold 70 = .ok (.aload_n 0, 1) := by decide +kernel
theorem dX8_statementTold_71 : decode cX8_statementTold 71 = .ok (.iload_n 1, 1) := by decide +kernel
theorem dX8_statementTold_72 : decode cX8_statementTold 72 = .ok (.invokevirtual 367, 3) := by decide +kernel
theorem dX8_statementTold_75 : decode cX8_statementTold 75 = .ok (.goto 112, 3) := by decide +kernel
theorem dX8_statementTold_78 : decode cX8_statementTold 78 = .ok (.aload_n 0, 1) := by decide +kernel
theorem dX8_statementTold_79 : decode cX8_statementTold 79 = .ok (.aload_n 0, 1) := by decide +kernel
theorem dX8_statementTold_80 : decode cX8_statementTold 80 = .ok (.getfield 51, 3) := by decide +kernel
theorem dX8_statementTold_83 : decode cX8_statementTold 83 = .ok (.invokevirtual 276, 3) := by decide +kernel
theorem dX8_statementTold_86 : decode cX8_statementTold 86 = .ok (.ifCond .eq 12, 3) := by decide +kernel
theorem dX8_statementTold_89 : decode cX8_statementTold 89 = .ok (.aload_n 0, 1) := by decide +kernel
theorem dX8_statementTold_90 : decode cX8_statementTold 90 = .ok (.iconst 0, 1) := by decide +kernel
theorem dX8_statementTold_91 : decode cX8_statementTold 91 = .ok (.iload_n 1, 1) := by decide +kernel
theorem dX8_statementTold_92 : decode cX8_statementTold 92 = .ok (.invokevirtual 370, 3) := by decide +kernel
theorem dX8_statementTold_95 : decode cX8_statementTold 95 = .ok (.goto 92, 3) := by decide +kernel
theorem dX8_statementTold_98 : decode cX8_statementTold 98 = .ok (.aload_n 0, 1) := by decide +kernel
theorem dX8_statementTold_99 : decode cX8_statementTold 99 = .ok (.aload_n 0, 1) := by decide +kernel
theorem dX8_statementTold_100 : decode cX8_statementTold 100 = .ok (.getfield 54, 3) := by decide +kernel
theorem dX8_statementTold_103 : decode cX8_statementTold 103 = .ok (.invokevirtual 276, 3) := by decide +kernel
theorem dX8_statementTold_106 : decode cX8_statementTold 106 = .ok (.ifCond .eq 12, 3) := by decide +kernel
theorem dX8_statementTold_109 : decode cX8_statementTold 109 = .ok (.aload_n 0, 1) := by decide +kernel
theorem dX8_statementTold_110 : decode cX8_statementTold 110 = .ok (.iconst 1, 1) := by decide +kernel
theorem dX8_statementTold_111 : decode cX8_statementTold 111 = .ok (.iload_n 1, 1) := by decide +kernel
theorem dX8_statementTold_112 : decode cX8_statementTold 112 = .ok (.invokevirtual 370, 3) := by decide +kernel
theorem dX8_statementTold_115 : decode cX8_statementTold 115 = .ok (.goto 72, 3) := by decide +kernel
theorem dX8_statementTold_118 : decode cX8_statementTold 118 = .ok (.aload_n 0, 1) := by decide +kernel
theorem dX8_statementTold_119 : decode cX8_statementTold 119 = .ok (.aload_n 0, 1) := by decide +kernel
theorem dX8_statementTold_120 : decode cX8_statementTold 120 = .ok (.getfield 57, 3) := by decide +kernel
theorem dX8_statementTold_123 : decode cX8_statementTold 123 = .ok (.invokevirtual 276, 3) := by decide +kernel
theorem dX8_statementTold_126 : decode cX8_statementTold 126 = .ok (.ifCond .eq 12, 3) := by decide +kernel
theorem dX8_statementTold_129 : decode cX8_statementTold 129 = .ok (.aload_n 0, 1) := by decide +kernel
theorem dX8_statementTold_130 : decode cX8_statementTold 130 = .ok (.iconst 2, 1) := by decide +kernel
theorem dX8_statementTold_131 : decode cX8_statementTold 131 = .ok (.iload_n 1, 1) := by decide +kernel
theorem dX8_statementTold_132 : decode cX8_statementTold 132 = .ok (.invokevirtual 370, 3) := by decide +kernel
theorem dX8_statementTold_135 : decode cX8_statementTold 135 = .ok (.goto 52, 3) := by decide +kernel
theorem dX8_statementTold_138 : decode cX8_statementTold 138 = .ok (.aload_n 0, 1) := by decide +kernel
theorem dX8_statementTold_139 : decode cX8_statementTold 139 = .ok (.aload_n 0, 1) := by decide +kernel
theorem dX8_statementTold_140 : decode cX8_statementTold 140 = .ok (.getfield 60, 3) := by decide +kernel
theorem dX8_statementTold_143 : decode cX8_statementTold 143 = .ok (.invokevirtual 276, 3) := by decide +kernel
theorem dX8_statementTold_146 : decode cX8_statementTold 146 = .ok (.ifCond .eq 20, 3) := by decide +kernel
theorem dX8_statementTold_149 : decode cX8_statementTold 149 = .ok (.aload_n 0, 1) := by decide +kernel
theorem dX8_statementTold_150 : decode cX8_statementTold 150 = .ok (.getfield 105, 3) := by decide +kernel
theorem dX8_statementTold_153 : decode cX8_statementTold 153 = .ok (.iconst 1, 1) := by decide +kernel
theorem dX8_statementTold_154 : decode cX8_statementTold 154 = .ok (.aload_n 0, 1) := by decide +kernel
theorem dX8_statementTold_155 : decode cX8_statementTold 155 = .ok (.iconst 0, 1) := by decide +kernel
theorem dX8_statementTold_156 : decode cX8_statementTold 156 = .ok (.sipush 999, 3) := by decide +kernel
theorem dX8_statementTold_159 : decode cX8_statementTold 159 = .ok (.invokevirtual 315, 3) := by decide +kernel
theorem dX8_statementTold_162 : decode cX8_statementTold 162 = .ok (.iastore, 1) := by decide +kernel
theorem dX8_statementTold_163 : decode cX8_statementTold 163 = .ok (.goto 24, 3) := by decide +kernel
theorem dX8_statementTold_166 : decode cX8_statementTold 166 = .ok (.aload_n 0, 1) := by decide +kernel
theorem dX8_statementTold_167 : decode cX8_statementTold 167 = .ok (.aload_n 0, 1) := by decide +kernel
theorem dX8_statementTold_168 : decode cX8_statementTold 168 = .ok (.getfield 63, 3) := by decide +kernel
theorem dX8_statementTold_171 : decode cX8_statementTold 171 = .ok (.invokevirtual 311, 3) := by decide +kernel
theorem dX8_statementTold_174 : decode cX8_statementTold 174 = .ok (.aload_n 0, 1) := by decide +kernel
theorem dX8_statementTold_175 : decode cX8_statementTold 175 = .ok (.getfield 105, 3) := by decide +kernel
theorem dX8_statementTold_178 : decode cX8_statementTold 178 = .ok (.iconst 2, 1) := by decide +kernel
theorem dX8_statementTold_179 : decode cX8_statementTold 179 = .ok (.aload_n 0, 1) := by decide +kernel
theorem dX8_statementTold_180 : decode cX8_statementTold 180 = .ok (.iconst 0, 1) := by decide +kernel
theorem dX8_statementTold_181 : decode cX8_statementTold 181 = .ok (.bipush 100, 2) := by decide +kernel
theorem dX8_statementTold_183 : decode cX8_statementTold 183 = .ok (.invokevirtual 315, 3) := by decide +kernel
theorem dX8_statementTold_186 : decode cX8_statementTold 186 = .ok (.iastore, 1) := by decide +kernel
theorem dX8_statementTold_187 : decode cX8_statementTold 187 = .ok (.aload_n 0, 1) := by decide +kernel
theorem dX8_statementTold_188 : decode cX8_statementTold 188 = .ok (.bipush 59, 2) := by decide +kernel
theorem dX8_statementTold_190 : decode cX8_statementTold 190 = .ok (.invokevirtual 319, 3) := by decide +kernel
theorem dX8_statementTold_193 : decode cX8_statementTold 193 = .ok (.aload_n 0, 1) := by decide +kernel
theorem dX8_statementTold_194 : decode cX8_statementTold 194 = .ok (.dup, 1) := by decide +kernel
theorem dX8_statementTold_195 : decode cX8_statementTold 195 = .ok (.getfield 358, 3) := by decide +kernel
theorem dX8_statementTold_198 : decode cX8_statementTold 198 = .ok (.iconst 1, 1) := by decide +kernel
theorem dX8_statementTold_199 : decode cX8_statementTold 199 = .ok (.iadd, 1) := by decide +kernel
theorem dX8_statementTold_200 : decode cX8_statementTold 200 = .ok (.putfield 358, 3) := by decide +kernel
theorem dX8_statementTold_203 : decode cX8_statementTold 203 = .ok (.return_, 1) := by decide +kernel
theorem dX8_station_0 : decode cX8_station 0 = .ok (.aload_n 0, 1) := by decide +kernel
theorem dX8_station_1 : decode cX8_station 1 = .ok (.aload_n 0, 1) := by decide +kernel
theorem dX8_station_2 : decode cX8_station 2 = .ok (.getfield 246, 3) := by decide +kernel
theorem dX8_station_5 : decode cX8_station 5 = .ok (.putfield 258, 3) := by decide +kernel
theorem dX8_station_8 : decode cX8_station 8 = .ok (.aload_n 0, 1) := by decide +kernel
theorem dX8_station_9 : decode cX8_station 9 = .ok (.iconst 0, 1) := by decide +kernel
theorem dX8_station_10 : decode cX8_station 10 = .ok (.putfield 246, 3) := by decide +kernel
theorem dX8_station_13 : decode cX8_station 13 = .ok (.aload_n 0, 1) := by decide +kernel
theorem dX8_station_14 : decode cX8_station 14 = .ok (.iconst 0, 1) := by decide +kernel
theorem dX8_station_15 : decode cX8_station 15 = .ok (.putfield 255, 3) := by decide +kernel
theorem dX8_station_18 : decode cX8_station 18 = .ok (.aload_n 0, 1) := by decide +kernel
theorem dX8_station_19 : decode cX8_station 19 = .ok (.iconst (-1), 1) := by decide +kernel
theorem dX8_station_20 : decode cX8_station 20 = .ok (.putfield 269, 3) := by decide +kernel
theorem dX8_station_23 : decode cX8_station 23 = .ok (.aload_n 0, 1) := by decide +kernel
theorem dX8_station_24 : decode cX8_station 24 = .ok (.iconst 0, 1) := by decide +kernel
theorem dX8_station_25 : decode cX8_station 25 = .ok (.putfield 249, 3) := by decide +kernel
theorem dX8_station_28 : decode cX8_station 28 = .ok (.aload_n 0, 1) := by decide +kernel
theorem dX8_station_29 : decode cX8_station 29 = .ok (.iconst (-1), 1) := by decide +kernel
theorem dX8_station_30 : decode cX8_station 30 = .ok (.putfield 252, 3) := by decide +kernel
theorem dX8_station_33 : decode cX8_station 33 = .ok (.aload_n 0, 1) := by decide +kernel
theorem dX8_station_34 : decode cX8_station 34 = .ok (.iconst 0, 1) := by decide +kernel
theorem dX8_station_35 : decode cX8_station 35 = .ok (.putfield 355, 3) := by decide +kernel
theorem dX8_station_38 : decode cX8_station 38 = .ok (.iconst 0, 1) := by decide +kernel
theorem dX8_station_39 : decode cX8_station 39 = .ok (.istore_n 1, 1) := by decide +kernel
theorem dX8_station_40 : decode cX8_station 40 = .ok (.iload_n 1, 1) := by decide +kernel
theorem dX8_station_41 : decode cX8_station 41 = .ok (.iconst 3, 1) := by decide +kernel
theorem dX8_station_42 : decode cX8_station 42 = .ok (.if_icmp .ge 23, 3) := by decide +kernel
theorem dX8_station_45 : decode cX8_station 45 = .ok (.aload_n 0, 1) := by decide +kernel
theorem dX8_station_46 : decode cX8_station 46 = .ok (.getfield 108, 3) := by decide +kernel
theorem dX8_station_49 : decode cX8_station 49 = .ok (.iload_n 1, 1) := by decide +kernel
theorem dX8_station_50 : decode cX8_station 50 = .ok (.iconst 0, 1) := by decide +kernel
theorem dX8_station_51 : decode cX8_station 51 = .ok (.iastore, 1) := by decide +kernel
theorem dX8_station_52 : decode cX8_station 52 = .ok (.aload_n 0, 1) := by decide +kernel
theorem dX8_station_53 : decode cX8_station 53 = .ok (.getfield 124, 3) := by decide +kernel
theorem dX8_station_56 : decode cX8_station 56 = .ok (.iload_n 1, 1) := by decide +kernel
theorem dX8_station_57 : decode cX8_station 57 = .ok (.iconst (-1), 1) := by decide +kernel
theorem dX8_station_58 : decode cX8_station 58 = .ok (.iastore, 1) := by decide +kernel
theorem dX8_station_59 : decode cX8_station 59 = .ok (.iinc 1 1, 3) := by decide +kernel
theorem dX8_station_62 : decode cX8_station 62 = .ok (.goto (-22), 3) := by decide +kernel
theorem dX8_station_65 : decode cX8_station 65 = .ok (.aload_n 0, 1) := by decide +kernel
theorem dX8_station_66 : decode cX8_station 66 = .ok (.getfield 105, 3) := by decide +kernel
theorem dX8_station_69 : decode cX8_station 69 = .ok (.iconst 1, 1) := by decide +kernel
theorem dX8_station_70 : decode cX8_station 70 = .ok (.iconst 0, 1) := by decide +kernel
theorem dX8_station_71 : decode cX8_station 71 = .ok (.iastore, 1) := by decide +kernel
theorem dX8_station_72 : decode cX8_station 72 = .ok (.aload_n 0, 1) := by decide +kernel
theorem dX8_station_73 : decode cX8_station 73 = .ok (.getfield 105, 3) := by decide +kernel
theorem dX8_station_76 : decode cX8_station 76 = .ok (.iconst 2, 1) := by decide +kernel
theorem dX8_station_77 : decode cX8_station 77 = .ok (.iconst 0, 1) := by decide +kernel
theorem dX8_station_78 : decode cX8_station 78 = .ok (.iastore, 1) := by decide +kernel
theorem dX8_station_79 : decode cX8_station 79 = .ok (.aload_n 0, 1) := by decide +kernel
theorem dX8_station_80 : decode cX8_station 80 = .ok (.invokevirtual 373, 3) := by decide +kernel
theorem dX8_station_83 : decode cX8_station 83 = .ok (.aload_n 0, 1) := by decide +kernel
theorem dX8_station_84 : decode cX8_station 84 = .ok (.iconst 1, 1) := by decide +kernel
theorem dX8_station_85 : decode cX8_station 85 = .ok (.putfield 358, 3) := by decide +kernel
theorem dX8_station_88 : decode cX8_station 88 = .ok (.aload_n 0, 1) := by decide +kernel
theorem dX8_station_89 : decode cX8_station 89 = .ok (.getfield 249, 3) := by decide +kernel
theorem dX8_station_92 : decode cX8_station 92 = .ok (.ifCond .ne 18, 3) := by decide +kernel
theorem dX8_station_95 : decode cX8_station 95 = .ok (.aload_n 0, 1) := by decide +kernel
theorem dX8_station_96 : decode cX8_station 96 = .ok (.invokevirtual 261, 3) := by decide +kernel
theorem dX8_station_99 : decode cX8_station 99 = .ok (.iconst (-1), 1) := by decide +kernel
theorem dX8_station_100 : decode cX8_station 100 = .ok (.if_icmp .eq 10, 3) := by decide +kernel
theorem dX8_station_103 : decode cX8_station 103 = .ok (.aload_n 0, 1) := by decide +kernel
theorem dX8_station_104 : decode cX8_station 104 = .ok (.invokevirtual 376, 3) := by decide +kernel
theorem dX8_station_107 : decode cX8_station 107 = .ok (.goto (-19), 3) := by decide +kernel
theorem dX8_station_110 : decode cX8_station 110 = .ok (.aload_n 0, 1) := by decide +kernel
theorem dX8_station_111 : decode cX8_station 111 = .ok (.aload_n 0, 1) := by decide +kernel
theorem dX8_station_112 : decode cX8_station 112 = .ok (.getfield 249, 3) := by decide +kernel
theorem dX8_station_115 : decode cX8_station 115 = .ok (.putfield 379, 3) := by decide +kernel
theorem dX8_station_118 : decode cX8_station 118 = .ok (.aload_n 0, 1) := by decide +kernel
theorem dX8_station_119 : decode cX8_station 119 = .ok (.aload_n 0, 1) := by decide +kernel
theorem dX8_station_120 : decode cX8_station 120 = .ok (.getfield 252, 3) := by decide +kernel
theorem dX8_station_123 : decode cX8_station 123 = .ok (.putfield 13, 3) := by decide +kernel
theorem dX8_station_126 : decode cX8_station 126 = .ok (.aload_n 0, 1) := by decide +kernel
theorem dX8_station_127 : decode cX8_station 127 = .ok (.getfield 249, 3) := by decide +kernel
theorem dX8_station_130 : decode cX8_station 130 = .ok (.ifCond .eq 15, 3) := by decide +kernel
theorem dX8_station_133 : decode cX8_station 133 = .ok (.aload_n 0, 1) := by decide +kernel
theorem dX8_station_134 : decode cX8_station 134 = .ok (.getfield 17, 3) := by decide +kernel
theorem dX8_station_137 : decode cX8_station 137 = .ok (.iconst 1, 1) := by decide +kernel
theorem dX8_station_138 : decode cX8_station 138 = .ok (.dup2, 1) := by decide +kernel
theorem dX8_station_139 : decode cX8_station 139 = .ok (.iaload, 1) := by decide +kernel
theorem dX8_station_140 : decode cX8_station 140 = .ok (.iconst 1, 1) := by decide +kernel
theorem dX8_station_141 : decode cX8_station 141 = .ok (.iadd, 1) := by decide +kernel
theorem dX8_station_142 : decode cX8_station 142 = .ok (.iastore, 1) := by decide +kernel
theorem dX8_station_143 : decode cX8_station 143 = .ok (.iconst (-1), 1) := by decide +kernel
theorem dX8_station_144 : decode cX8_station 144 = .ok (.ireturn, 1) := by decide +kernel
theorem dX8_station_145 : decode cX8_station 145 = .ok (.aload_n 0, 1) := by decide +kernel
theorem dX8_station_146 : decode cX8_station 146 = .ok (.invokevirtual 382, 3) := by decide +kernel
theorem dX8_station_149 : decode cX8_station 149 = .ok (.aload_n 0, 1) := by decide +kernel
theorem dX8_station_150 : decode cX8_station 150 = .ok (.getfield 358, 3) := by decide +kernel
theorem dX8_station_153 : decode cX8_station 153 = .ok (.ireturn, 1) := by decide +kernel
theorem dX8_stands_0 : decode cX8_stands 0 = .ok (.aload_n 0, 1) := by decide +kernel
theorem dX8_stands_1 : decode cX8_stands 1 = .ok (.iconst 1, 1) := by decide +kernel
theorem dX8_stands_2 : decode cX8_stands 2 = .ok (.putfield 385, 3) := by decide +kernel
theorem dX8_stands_5 : decode cX8_stands 5 = .ok (.iconst 0, 1) := by decide +kernel
theorem dX8_stands_6 : decode cX8_stands 6 = .ok (.istore_n 1, 1) := by decide +kernel
theorem dX8_stands_7 : decode cX8_stands 7 = .ok (.iload_n 1, 1) := by decide +kernel
theorem dX8_stands_8 : decode cX8_stands 8 = .ok (.iconst 3, 1) := by decide +kernel
theorem dX8_stands_9 : decode cX8_stands 9 = .ok (.if_icmp .ge 65, 3) := by decide +kernel
theorem dX8_stands_12 : decode cX8_stands 12 = .ok (.aload_n 0, 1) := by decide +kernel
theorem dX8_stands_13 : decode cX8_stands 13 = .ok (.getfield 105, 3) := by decide +kernel
theorem dX8_stands_16 : decode cX8_stands 16 = .ok (.iconst 3, 1) := by decide +kernel
theorem dX8_stands_17 : decode cX8_stands 17 = .ok (.iload_n 1, 1) := by decide +kernel
theorem dX8_stands_18 : decode cX8_stands 18 = .ok (.iadd, 1) := by decide +kernel
theorem dX8_stands_19 : decode cX8_stands 19 = .ok (.aload_n 0, 1) := by decide +kernel
theorem dX8_stands_20 : decode cX8_stands 20 = .ok (.getfield 105, 3) := by decide +kernel
theorem dX8_stands_23 : decode cX8_stands 23 = .ok (.iload_n 1, 1) := by decide +kernel
theorem dX8_stands_24 : decode cX8_stands 24 = .ok (.iaload, 1) := by decide +kernel
theorem dX8_stands_25 : decode cX8_stands 25 = .ok (.iastore, 1) := by decide +kernel
theorem dX8_stands_26 : decode cX8_stands 26 = .ok (.aload_n 0, 1) := by decide +kernel
theorem dX8_stands_27 : decode cX8_stands 27 = .ok (.getfield 108, 3) := by decide +kernel
theorem dX8_stands_30 : decode cX8_stands 30 = .ok (.iconst 3, 1) := by decide +kernel
theorem dX8_stands_31 : decode cX8_stands 31 = .ok (.iload_n 1, 1) := by decide +kernel
theorem dX8_stands_32 : decode cX8_stands 32 = .ok (.iadd, 1) := by decide +kernel
theorem dX8_stands_33 : decode cX8_stands 33 = .ok (.aload_n 0, 1) := by decide +kernel
theorem dX8_stands_34 : decode cX8_stands 34 = .ok (.getfield 108, 3) := by decide +kernel
theorem dX8_stands_37 : decode cX8_stands 37 = .ok (.iload_n 1, 1) := by decide +kernel
theorem dX8_stands_38 : decode cX8_stands 38 = .ok (.iaload, 1) := by decide +kernel
theorem dX8_stands_39 : decode cX8_stands 39 = .ok (.iastore, 1) := by decide +kernel
theorem dX8_stands_40 : decode cX8_stands 40 = .ok (.aload_n 0, 1) := by decide +kernel
theorem dX8_stands_41 : decode cX8_stands 41 = .ok (.getfield 124, 3) := by decide +kernel
theorem dX8_stands_44 : decode cX8_stands 44 = .ok (.iconst 3, 1) := by decide +kernel
theorem dX8_stands_45 : decode cX8_stands 45 = .ok (.iload_n 1, 1) := by decide +kernel
theorem dX8_stands_46 : decode cX8_stands 46 = .ok (.iadd, 1) := by decide +kernel
theorem dX8_stands_47 : decode cX8_stands 47 = .ok (.aload_n 0, 1) := by decide +kernel
theorem dX8_stands_48 : decode cX8_stands 48 = .ok (.getfield 124, 3) := by decide +kernel
theorem dX8_stands_51 : decode cX8_stands 51 = .ok (.iload_n 1, 1) := by decide +kernel
theorem dX8_stands_52 : decode cX8_stands 52 = .ok (.iaload, 1) := by decide +kernel
theorem dX8_stands_53 : decode cX8_stands 53 = .ok (.iastore, 1) := by decide +kernel
theorem dX8_stands_54 : decode cX8_stands 54 = .ok (.aload_n 0, 1) := by decide +kernel
theorem dX8_stands_55 : decode cX8_stands 55 = .ok (.getfield 127, 3) := by decide +kernel
theorem dX8_stands_58 : decode cX8_stands 58 = .ok (.iconst 3, 1) := by decide +kernel
theorem dX8_stands_59 : decode cX8_stands 59 = .ok (.iload_n 1, 1) := by decide +kernel
theorem dX8_stands_60 : decode cX8_stands 60 = .ok (.iadd, 1) := by decide +kernel
theorem dX8_stands_61 : decode cX8_stands 61 = .ok (.aload_n 0, 1) := by decide +kernel
theorem dX8_stands_62 : decode cX8_stands 62 = .ok (.getfield 127, 3) := by decide +kernel
theorem dX8_stands_65 : decode cX8_stands 65 = .ok (.iload_n 1, 1) := by decide +kernel
theorem dX8_stands_66 : decode cX8_stands 66 = .ok (.iaload, 1) := by decide +kernel
theorem dX8_stands_67 : decode cX8_stands 67 = .ok (.iastore, 1) := by decide +kernel
theorem dX8_stands_68 : decode cX8_stands 68 = .ok (.iinc 1 1, 3) := by decide +kernel
theorem dX8_stands_71 : decode cX8_stands 71 = .ok (.goto (-64), 3) := by decide +kernel
theorem dX8_stands_74 : decode cX8_stands 74 = .ok (.iconst 0, 1) := by decide +kernel
theorem dX8_stands_75 : decode cX8_stands 75 = .ok (.istore_n 1, 1) := by decide +kernel
theorem dX8_stands_76 : decode cX8_stands 76 = .ok (.iload_n 1, 1) := by decide +kernel
theorem dX8_stands_77 : decode cX8_stands 77 = .ok (.bipush 24, 2) := by decide +kernel
theorem dX8_stands_79 : decode cX8_stands 79 = .ok (.if_icmp .ge 24, 3) := by decide +kernel
theorem dX8_stands_82 : decode cX8_stands 82 = .ok (.aload_n 0, 1) := by decide +kernel
theorem dX8_stands_83 : decode cX8_stands 83 = .ok (.getfield 111, 3) := by decide +kernel
theorem dX8_stands_86 : decode cX8_stands 86 = .ok (.bipush 24, 2) := by decide +kernel
theorem dX8_stands_88 : decode cX8_stands 88 = .ok (.iload_n 1, 1) := by decide +kernel
theorem dX8_stands_89 : decode cX8_stands 89 = .ok (.iadd, 1) := by decide +kernel
theorem dX8_stands_90 : decode cX8_stands 90 = .ok (.aload_n 0, 1) := by decide +kernel
theorem dX8_stands_91 : decode cX8_stands 91 = .ok (.getfield 111, 3) := by decide +kernel
theorem dX8_stands_94 : decode cX8_stands 94 = .ok (.iload_n 1, 1) := by decide +kernel
theorem dX8_stands_95 : decode cX8_stands 95 = .ok (.laload, 1) := by decide +kernel
theorem dX8_stands_96 : decode cX8_stands 96 = .ok (.lastore, 1) := by decide +kernel
theorem dX8_stands_97 : decode cX8_stands 97 = .ok (.iinc 1 1, 3) := by decide +kernel
theorem dX8_stands_100 : decode cX8_stands 100 = .ok (.goto (-24), 3) := by decide +kernel
theorem dX8_stands_103 : decode cX8_stands 103 = .ok (.iconst 0, 1) := by decide +kernel
theorem dX8_stands_104 : decode cX8_stands 104 = .ok (.istore_n 1, 1) := by decide +kernel
theorem dX8_stands_105 : decode cX8_stands 105 = .ok (.iload_n 1, 1) := by decide +kernel
theorem dX8_stands_106 : decode cX8_stands 106 = .ok (.bipush 12, 2) := by decide +kernel
theorem dX8_stands_108 : decode cX8_stands 108 = .ok (.if_icmp .ge 24, 3) := by decide +kernel
theorem dX8_stands_111 : decode cX8_stands 111 = .ok (.aload_n 0, 1) := by decide +kernel
theorem dX8_stands_112 : decode cX8_stands 112 = .ok (.getfield 115, 3) := by decide +kernel
theorem dX8_stands_115 : decode cX8_stands 115 = .ok (.bipush 12, 2) := by decide +kernel
theorem dX8_stands_117 : decode cX8_stands 117 = .ok (.iload_n 1, 1) := by decide +kernel
theorem dX8_stands_118 : decode cX8_stands 118 = .ok (.iadd, 1) := by decide +kernel
theorem dX8_stands_119 : decode cX8_stands 119 = .ok (.aload_n 0, 1) := by decide +kernel
theorem dX8_stands_120 : decode cX8_stands 120 = .ok (.getfield 115, 3) := by decide +kernel
theorem dX8_stands_123 : decode cX8_stands 123 = .ok (.iload_n 1, 1) := by decide +kernel
theorem dX8_stands_124 : decode cX8_stands 124 = .ok (.iaload, 1) := by decide +kernel
theorem dX8_stands_125 : decode cX8_stands 125 = .ok (.iastore, 1) := by decide +kernel
theorem dX8_stands_126 : decode cX8_stands 126 = .ok (.iinc 1 1, 3) := by decide +kernel
theorem dX8_stands_129 : decode cX8_stands 129 = .ok (.goto (-24), 3) := by decide +kernel
theorem dX8_stands_132 : decode cX8_stands 132 = .ok (.iconst 0, 1) := by decide +kernel
theorem dX8_stands_133 : decode cX8_stands 133 = .ok (.istore_n 1, 1) := by decide +kernel
theorem dX8_stands_134 : decode cX8_stands 134 = .ok (.iload_n 1, 1) := by decide +kernel
theorem dX8_stands_135 : decode cX8_stands 135 = .ok (.iconst 5, 1) := by decide +kernel
theorem dX8_stands_136 : decode cX8_stands 136 = .ok (.if_icmp .ge 23, 3) := by decide +kernel
theorem dX8_stands_139 : decode cX8_stands 139 = .ok (.aload_n 0, 1) := by decide +kernel
theorem dX8_stands_140 : decode cX8_stands 140 = .ok (.getfield 121, 3) := by decide +kernel
theorem dX8_stands_143 : decode cX8_stands 143 = .ok (.iconst 5, 1) := by decide +kernel
theorem dX8_stands_144 : decode cX8_stands 144 = .ok (.iload_n 1, 1) := by decide +kernel
theorem dX8_stands_145 : decode cX8_stands 145 = .ok (.iadd, 1) := by decide +kernel
theorem dX8_stands_146 : decode cX8_stands 146 = .ok (.aload_n 0, 1) := by decide +kernel
theorem dX8_stands_147 : decode cX8_stands 147 = .ok (.getfield 121, 3) := by decide +kernel
theorem dX8_stands_150 : decode cX8_stands 150 = .ok (.iload_n 1, 1) := by decide +kernel
theorem dX8_stands_151 : decode cX8_stands 151 = .ok (.iaload, 1) := by decide +kernel
theorem dX8_stands_152 : decode cX8_stands 152 = .ok (.iastore, 1) := by decide +kernel
theorem dX8_stands_153 : decode cX8_stands 153 = .ok (.iinc 1 1, 3) := by decide +kernel
theorem dX8_stands_156 : decode cX8_stands 156 = .ok (.goto (-22), 3) := by decide +kernel
theorem dX8_stands_159 : decode cX8_stands 159 = .ok (.iconst 0, 1) := by decide +kernel
theorem dX8_stands_160 : decode cX8_stands 160 = .ok (.istore_n 1, 1) := by decide +kernel
theorem dX8_stands_161 : decode cX8_stands 161 = .ok (.iload_n 1, 1) := by decide +kernel
theorem dX8_stands_162 : decode cX8_stands 162 = .ok (.aload_n 0, 1) := by decide +kernel
theorem dX8_stands_163 : decode cX8_stands 163 = .ok (.getfield 355, 3) := by decide +kernel
theorem dX8_stands_166 : decode cX8_stands 166 = .ok (.if_icmp .ge 25, 3) := by decide +kernel
theorem dX8_stands_169 : decode cX8_stands 169 = .ok (.aload_n 0, 1) := by decide +kernel
theorem dX8_stands_170 : decode cX8_stands 170 = .ok (.getfield 130, 3) := by decide +kernel
theorem dX8_stands_173 : decode cX8_stands 173 = .ok (.sipush 1600, 3) := by decide +kernel
theorem dX8_stands_176 : decode cX8_stands 176 = .ok (.iload_n 1, 1) := by decide +kernel
theorem dX8_stands_177 : decode cX8_stands 177 = .ok (.iadd, 1) := by decide +kernel
theorem dX8_stands_178 : decode cX8_stands 178 = .ok (.aload_n 0, 1) := by decide +kernel
theorem dX8_stands_179 : decode cX8_stands 179 = .ok (.getfield 130, 3) := by decide +kernel
theorem dX8_stands_182 : decode cX8_stands 182 = .ok (.iload_n 1, 1) := by decide +kernel
theorem dX8_stands_183 : decode cX8_stands 183 = .ok (.iaload, 1) := by decide +kernel
theorem dX8_stands_184 : decode cX8_stands 184 = .ok (.iastore, 1) := by decide +kernel
theorem dX8_stands_185 : decode cX8_stands 185 = .ok (.iinc 1 1, 3) := by decide +kernel
theorem dX8_stands_188 : decode cX8_stands 188 = .ok (.goto (-27), 3) := by decide +kernel
theorem dX8_stands_191 : decode cX8_stands 191 = .ok (.iconst 0, 1) := by decide +kernel
theorem dX8_stands_192 : decode cX8_stands 192 = .ok (.istore_n 1, 1) := by decide +kernel
theorem dX8_stands_193 : decode cX8_stands 193 = .ok (.iload_n 1, 1) := by decide +kernel
theorem dX8_stands_194 : decode cX8_stands 194 = .ok (.sipush 163, 3) := by decide +kernel
theorem dX8_stands_197 : decode cX8_stands 197 = .ok (.if_icmp .ge 16, 3) := by decide +kernel
theorem dX8_stands_200 : decode cX8_stands 200 = .ok (.aload_n 0, 1) := by decide +kernel
theorem dX8_stands_201 : decode cX8_stands 201 = .ok (.getfield 133, 3) := by decide +kernel
theorem dX8_stands_204 : decode cX8_stands 204 = .ok (.iload_n 1, 1) := by decide +kernel
theorem dX8_stands_205 : decode cX8_stands 205 = .ok (.iconst 0, 1) := by decide +kernel
theorem dX8_stands_206 : decode cX8_stands 206 = .ok (.iastore, 1) := by decide +kernel
theorem dX8_stands_207 : decode cX8_stands 207 = .ok (.iinc 1 1, 3) := by decide +kernel
theorem dX8_stands_210 : decode cX8_stands 210 = .ok (.goto (-17), 3) := by decide +kernel
theorem dX8_stands_213 : decode cX8_stands 213 = .ok (.aload_n 0, 1) := by decide +kernel
theorem dX8_stands_214 : decode cX8_stands 214 = .ok (.getfield 133, 3) := by decide +kernel
theorem dX8_stands_217 : decode cX8_stands 217 = .ok (.iconst 1, 1) := by decide +kernel
theorem dX8_stands_218 : decode cX8_stands 218 = .ok (.aload_n 0, 1) := by decide +kernel
theorem dX8_stands_219 : decode cX8_stands 219 = .ok (.getfield 105, 3) := by decide +kernel
theorem dX8_stands_222 : decode cX8_stands 222 = .ok (.iconst 1, 1) := by decide +kernel
theorem dX8_stands_223 : decode cX8_stands 223 = .ok (.iaload, 1) := by decide +kernel
theorem dX8_stands_224 : decode cX8_stands 224 = .ok (.iastore, 1) := by decide +kernel
theorem dX8_stands_225 : decode cX8_stands 225 = .ok (.iconst 0, 1) := by decide +kernel
theorem dX8_stands_226 : decode cX8_stands 226 = .ok (.istore_n 1, 1) := by decide +kernel
theorem dX8_stands_227 : decode cX8_stands 227 = .ok (.iload_n 1, 1) := by decide +kernel
theorem dX8_stands_228 : decode cX8_stands 228 = .ok (.aload_n 0, 1) := by decide +kernel
theorem dX8_stands_229 : decode cX8_stands 229 = .ok (.getfield 108, 3) := by decide +kernel
theorem dX8_stands_232 : decode cX8_stands 232 = .ok (.iconst 1, 1) := by decide +kernel
theorem dX8_stands_233 : decode cX8_stands 233 = .ok (.iaload, 1) := by decide +kernel
theorem dX8_stands_234 : decode cX8_stands 234 = .ok (.if_icmp .ge 44, 3) := by decide +kernel
theorem dX8_stands_237 : decode cX8_stands 237 = .ok (.iconst 0, 1) := by decide +kernel
theorem dX8_stands_238 : decode cX8_stands 238 = .ok (.istore_n 2, 1) := by decide +kernel
theorem dX8_stands_239 : decode cX8_stands 239 = .ok (.iload_n 2, 1) := by decide +kernel
theorem dX8_stands_240 : decode cX8_stands 240 = .ok (.iconst 3, 1) := by decide +kernel
theorem dX8_stands_241 : decode cX8_stands 241 = .ok (.if_icmp .ge 31, 3) := by decide +kernel
theorem dX8_stands_244 : decode cX8_stands 244 = .ok (.aload_n 0, 1) := by decide +kernel
theorem dX8_stands_245 : decode cX8_stands 245 = .ok (.getfield 133, 3) := by decide +kernel
theorem dX8_stands_248 : decode cX8_stands 248 = .ok (.iconst 2, 1) := by decide +kernel
theorem dX8_stands_249 : decode cX8_stands 249 = .ok (.iconst 5, 1) := by decide +kernel
theorem dX8_stands_250 : decode cX8_stands 250 = .ok (.iload_n 1, 1) := by decide +kernel
theorem dX8_stands_251 : decode cX8_stands 251 = .ok (.imul, 1) := by decide +kernel
theorem dX8_stands_252 : decode cX8_stands 252 = .ok (.iadd, 1) := by decide +kernel
theorem dX8_stands_253 : decode cX8_stands 253 = .ok (.iload_n 2, 1) := by decide +kernel
theorem dX8_stands_254 : decode cX8_stands 254 = .ok (.iadd, 1) := by decide +kernel
theorem dX8_stands_255 : decode cX8_stands 255 = .ok (.aload_n 0, 1) := by decide +kernel
theorem dX8_stands_256 : decode cX8_stands 256 = .ok (.getfield 118, 3) := by decide +kernel
theorem dX8_stands_259 : decode cX8_stands 259 = .ok (.iconst 3, 1) := by decide +kernel
theorem dX8_stands_260 : decode cX8_stands 260 = .ok (.iload_n 1, 1) := by decide +kernel
theorem dX8_stands_261 : decode cX8_stands 261 = .ok (.imul, 1) := by decide +kernel
theorem dX8_stands_262 : decode cX8_stands 262 = .ok (.iload_n 2, 1) := by decide +kernel
theorem dX8_stands_263 : decode cX8_stands 263 = .ok (.iadd, 1) := by decide +kernel
theorem dX8_stands_264 : decode cX8_stands 264 = .ok (.iaload, 1) := by decide +kernel
theorem dX8_stands_265 : decode cX8_stands 265 = .ok (.iastore, 1) := by decide +kernel
theorem dX8_stands_266 : decode cX8_stands 266 = .ok (.iinc 2 1, 3) := by decide +kernel
theorem dX8_stands_269 : decode cX8_stands 269 = .ok (.goto (-30), 3) := by decide +kernel
theorem dX8_stands_272 : decode cX8_stands 272 = .ok (.iinc 1 1, 3) := by decide +kernel
theorem dX8_stands_275 : decode cX8_stands 275 = .ok (.goto (-48), 3) := by decide +kernel
theorem dX8_stands_278 : decode cX8_stands 278 = .ok (.aload_n 0, 1) := by decide +kernel
theorem dX8_stands_279 : decode cX8_stands 279 = .ok (.iconst 0, 1) := by decide +kernel
theorem dX8_stands_280 : decode cX8_stands 280 = .ok (.putfield 389, 3) := by decide +kernel
theorem dX8_stands_283 : decode cX8_stands 283 = .ok (.aload_n 0, 1) := by decide +kernel
theorem dX8_stands_284 : decode cX8_stands 284 = .ok (.iconst 0, 1) := by decide +kernel
theorem dX8_stands_285 : decode cX8_stands 285 = .ok (.putfield 392, 3) := by decide +kernel
theorem dX8_stands_288 : decode cX8_stands 288 = .ok (.return_, 1) := by decide +kernel
theorem dX8_fault_0 : decode cX8_fault 0 = .ok (.iload_n 1, 1) := by decide +kernel
theorem dX8_fault_1 : decode cX8_fault 1 = .ok (.ifCond .ne 10, 3) := by decide +kernel
theorem dX8_fault_4 : decode cX8_fault 4 = .ok (.aload_n 0, 1) := by decide +kernel
theorem dX8_fault_5 : decode cX8_fault 5 = .ok (.getfield 379, 3) := by decide +kernel
theorem dX8_fault_8 : decode cX8_fault 8 = .ok (.goto 16, 3) := by decide +kernel
theorem dX8_fault_11 : decode cX8_fault 11 = .ok (.iload_n 1, 1) := by decide +kernel
theorem dX8_fault_12 : decode cX8_fault 12 = .ok (.iconst 1, 1) := by decide +kernel
theorem dX8_fault_13 : decode cX8_fault 13 = .ok (.if_icmp .ne 10, 3) := by decide +kernel
theorem dX8_fault_16 : decode cX8_fault 16 = .ok (.aload_n 0, 1) := by decide +kernel
theorem dX8_fault_17 : decode cX8_fault 17 = .ok (.getfield 13, 3) := by decide +kernel
theorem dX8_fault_20 : decode cX8_fault 20 = .ok (.goto 4, 3) := by decide +kernel
theorem dX8_fault_23 : decode cX8_fault 23 = .ok (.iconst (-1), 1) := by decide +kernel
theorem dX8_fault_24 : decode cX8_fault 24 = .ok (.ireturn, 1) := by decide +kernel
theorem dX8_songMany_0 : decode cX8_songMany 0 = .ok (.aload_n 0, 1) := by decide +kernel
theorem dX8_songMany_1 : decode cX8_songMany 1 = .ok (.getfield 108, 3) := by decide +kernel
theorem dX8_songMany_4 : decode cX8_songMany 4 = .ok (.iconst 3, 1) := by decide +kernel
theorem dX8_songMany_5 : decode cX8_songMany 5 = .ok (.iaload, 1) := by decide +kernel
theorem dX8_songMany_6 : decode cX8_songMany 6 = .ok (.ireturn, 1) := by decide +kernel
theorem dX8_askerMany_0 : decode cX8_askerMany 0 = .ok (.aload_n 0, 1) := by decide +kernel
theorem dX8_askerMany_1 : decode cX8_askerMany 1 = .ok (.getfield 108, 3) := by decide +kernel
theorem dX8_askerMany_4 : decode cX8_askerMany 4 = .ok (.iconst 4, 1) := by decide +kernel
theorem dX8_askerMany_5 : decode cX8_askerMany 5 = .ok (.iaload, 1) := by decide +kernel
theorem dX8_askerMany_6 : decode cX8_askerMany 6 = .ok (.ireturn, 1) := by decide +kernel
theorem dX8_earMany_0 : decode cX8_earMany 0 = .ok (.aload_n 0, 1) := by decide +kernel
theorem dX8_earMany_1 : decode cX8_earMany 1 = .ok (.getfield 108, 3) := by decide +kernel
theorem dX8_earMany_4 : decode cX8_earMany 4 = .ok (.iconst 5, 1) := by decide +kernel
theorem dX8_earMany_5 : decode cX8_earMany 5 = .ok (.iaload, 1) := by decide +kernel
theorem dX8_earMany_6 : decode cX8_earMany 6 = .ok (.ireturn, 1) := by decide +kernel
theorem dX8_isAsker_0 : decode cX8_isAsker 0 = .ok (.iload_n 1, 1) := by decide +kernel
theorem dX8_isAsker_1 : decode cX8_isAsker 1 = .ok (.i2l, 1) := by decide +kernel
theorem dX8_isAsker_2 : decode cX8_isAsker 2 = .ok (.lconst 0, 1) := by decide +kernel
theorem dX8_isAsker_3 : decode cX8_isAsker 3 = .ok (.aload_n 0, 1) := by decide +kernel
theorem dX8_isAsker_4 : decode cX8_isAsker 4 = .ok (.invokevirtual 395, 3) := by decide +kernel
theorem dX8_isAsker_7 : decode cX8_isAsker 7 = .ok (.iconst 1, 1) := by decide +kernel
theorem dX8_isAsker_8 : decode cX8_isAsker 8 = .ok (.isub, 1) := by decide +kernel
theorem dX8_isAsker_9 : decode cX8_isAsker 9 = .ok (.i2l, 1) := by decide +kernel
theorem dX8_isAsker_10 : decode cX8_isAsker 10 = .ok (.invokestatic 289, 3) := by decide +kernel
theorem dX8_isAsker_13 : decode cX8_isAsker 13 = .ok (.ireturn, 1) := by decide +kernel
theorem dX8_songOf_0 : decode cX8_songOf 0 = .ok (.aload_n 0, 1) := by decide +kernel
theorem dX8_songOf_1 : decode cX8_songOf 1 = .ok (.getfield 133, 3) := by decide +kernel
theorem dX8_songOf_4 : decode cX8_songOf 4 = .ok (.iconst 2, 1) := by decide +kernel
theorem dX8_songOf_5 : decode cX8_songOf 5 = .ok (.iconst 5, 1) := by decide +kernel
theorem dX8_songOf_6 : decode cX8_songOf 6 = .ok (.iload_n 1, 1) := by decide +kernel
theorem dX8_songOf_7 : decode cX8_songOf 7 = .ok (.imul, 1) := by decide +kernel
theorem dX8_songOf_8 : decode cX8_songOf 8 = .ok (.iadd, 1) := by decide +kernel
theorem dX8_songOf_9 : decode cX8_songOf 9 = .ok (.iaload, 1) := by decide +kernel
theorem dX8_songOf_10 : decode cX8_songOf 10 = .ok (.ireturn, 1) := by decide +kernel
theorem dX8_diesOf_0 : decode cX8_diesOf 0 = .ok (.aload_n 0, 1) := by decide +kernel
theorem dX8_diesOf_1 : decode cX8_diesOf 1 = .ok (.getfield 133, 3) := by decide +kernel
theorem dX8_diesOf_4 : decode cX8_diesOf 4 = .ok (.iconst 3, 1) := by decide +kernel
theorem dX8_diesOf_5 : decode cX8_diesOf 5 = .ok (.iconst 5, 1) := by decide +kernel
theorem dX8_diesOf_6 : decode cX8_diesOf 6 = .ok (.iload_n 1, 1) := by decide +kernel
theorem dX8_diesOf_7 : decode cX8_diesOf 7 = .ok (.imul, 1) := by decide +kernel
theorem dX8_diesOf_8 : decode cX8_diesOf 8 = .ok (.iadd, 1) := by decide +kernel
theorem dX8_diesOf_9 : decode cX8_diesOf 9 = .ok (.iaload, 1) := by decide +kernel
theorem dX8_diesOf_10 : decode cX8_diesOf 10 = .ok (.ireturn, 1) := by decide +kernel
theorem dX8_mindsOf_0 : decode cX8_mindsOf 0 = .ok (.aload_n 0, 1) := by decide +kernel
theorem dX8_mindsOf_1 : decode cX8_mindsOf 1 = .ok (.getfield 133, 3) := by decide +kernel
theorem dX8_mindsOf_4 : decode cX8_mindsOf 4 = .ok (.iconst 4, 1) := by decide +kernel
theorem dX8_mindsOf_5 : decode cX8_mindsOf 5 = .ok (.iconst 5, 1) := by decide +kernel
theorem dX8_mindsOf_6 : decode cX8_mindsOf 6 = .ok (.iload_n 1, 1) := by decide +kernel
theorem dX8_mindsOf_7 : decode cX8_mindsOf 7 = .ok (.imul, 1) := by decide +kernel
theorem dX8_mindsOf_8 : decode cX8_mindsOf 8 = .ok (.iadd, 1) := by decide +kernel
theorem dX8_mindsOf_9 : decode cX8_mindsOf 9 = .ok (.iaload, 1) := by decide +kernel
theorem dX8_mindsOf_10 : decode cX8_mindsOf 10 = .ok (.ireturn, 1) := by decide +kernel
theorem dX8_lastOf_0 : decode cX8_lastOf 0 = .ok (.aload_n 0, 1) := by decide +kernel
theorem dX8_lastOf_1 : decode cX8_lastOf 1 = .ok (.getfield 133, 3) := by decide +kernel
theorem dX8_lastOf_4 : decode cX8_lastOf 4 = .ok (.iconst 5, 1) := by decide +kernel
theorem dX8_lastOf_5 : decode cX8_lastOf 5 = .ok (.iconst 5, 1) := by decide +kernel
theorem dX8_lastOf_6 : decode cX8_lastOf 6 = .ok (.iload_n 1, 1) := by decide +kernel
theorem dX8_lastOf_7 : decode cX8_lastOf 7 = .ok (.imul, 1) := by decide +kernel
theorem dX8_lastOf_8 : decode cX8_lastOf 8 = .ok (.iadd, 1) := by decide +kernel
theorem dX8_lastOf_9 : decode cX8_lastOf 9 = .ok (.iaload, 1) := by decide +kernel
theorem dX8_lastOf_10 : decode cX8_lastOf 10 = .ok (.ireturn, 1) := by decide +kernel
theorem dX8_playedOf_0 : decode cX8_playedOf 0 = .ok (.aload_n 0, 1) := by decide +kernel
theorem dX8_playedOf_1 : decode cX8_playedOf 1 = .ok (.getfield 133, 3) := by decide +kernel
theorem dX8_playedOf_4 : decode cX8_playedOf 4 = .ok (.bipush 6, 2) := by decide +kernel
theorem dX8_playedOf_6 : decode cX8_playedOf 6 = .ok (.iconst 5, 1) := by decide +kernel
theorem dX8_playedOf_7 : decode cX8_playedOf 7 = .ok (.iload_n 1, 1) := by decide +kernel
theorem dX8_playedOf_8 : decode cX8_playedOf 8 = .ok (.imul, 1) := by decide +kernel
theorem dX8_playedOf_9 : decode cX8_playedOf 9 = .ok (.iadd, 1) := by decide +kernel
theorem dX8_playedOf_10 : decode cX8_playedOf 10 = .ok (.iaload, 1) := by decide +kernel
theorem dX8_playedOf_11 : decode cX8_playedOf 11 = .ok (.ireturn, 1) := by decide +kernel
theorem dX8_longOf_0 : decode cX8_longOf 0 = .ok (.aload_n 0, 1) := by decide +kernel
theorem dX8_longOf_1 : decode cX8_longOf 1 = .ok (.getfield 115, 3) := by decide +kernel
theorem dX8_longOf_4 : decode cX8_longOf 4 = .ok (.bipush 12, 2) := by decide +kernel
theorem dX8_longOf_6 : decode cX8_longOf 6 = .ok (.iconst 2, 1) := by decide +kernel
theorem dX8_longOf_7 : decode cX8_longOf 7 = .ok (.aload_n 0, 1) := by decide +kernel
theorem dX8_longOf_8 : decode cX8_longOf 8 = .ok (.iload_n 1, 1) := by decide +kernel
theorem dX8_longOf_9 : decode cX8_longOf 9 = .ok (.invokevirtual 398, 3) := by decide +kernel
theorem dX8_longOf_12 : decode cX8_longOf 12 = .ok (.imul, 1) := by decide +kernel
theorem dX8_longOf_13 : decode cX8_longOf 13 = .ok (.iadd, 1) := by decide +kernel
theorem dX8_longOf_14 : decode cX8_longOf 14 = .ok (.iaload, 1) := by decide +kernel
theorem dX8_longOf_15 : decode cX8_longOf 15 = .ok (.ireturn, 1) := by decide +kernel
theorem dX8_styleOf_0 : decode cX8_styleOf 0 = .ok (.aload_n 0, 1) := by decide +kernel
theorem dX8_styleOf_1 : decode cX8_styleOf 1 = .ok (.getfield 115, 3) := by decide +kernel
theorem dX8_styleOf_4 : decode cX8_styleOf 4 = .ok (.bipush 13, 2) := by decide +kernel
theorem dX8_styleOf_6 : decode cX8_styleOf 6 = .ok (.iconst 2, 1) := by decide +kernel
theorem dX8_styleOf_7 : decode cX8_styleOf 7 = .ok (.aload_n 0, 1) := by decide +kernel
theorem dX8_styleOf_8 : decode cX8_styleOf 8 = .ok (.iload_n 1, 1) := by decide +kernel
theorem dX8_styleOf_9 : decode cX8_styleOf 9 = .ok (.invokevirtual 398, 3) := by decide +kernel
theorem dX8_styleOf_12 : decode cX8_styleOf 12 = .ok (.imul, 1) := by decide +kernel
theorem dX8_styleOf_13 : decode cX8_styleOf 13 = .ok (.iadd, 1) := by decide +kernel
theorem dX8_styleOf_14 : decode cX8_styleOf 14 = .ok (.iaload, 1) := by decide +kernel
theorem dX8_styleOf_15 : decode cX8_styleOf 15 = .ok (.ireturn, 1) := by decide +kernel
theorem dX8_isDead_0 : decode cX8_isDead 0 = .ok (.aload_n 0, 1) := by decide +kernel
theorem dX8_isDead_1 : decode cX8_isDead 1 = .ok (.getfield 133, 3) := by decide +kernel
theorem dX8_isDead_4 : decode cX8_isDead 4 = .ok (.iconst 0, 1) := by decide +kernel
theorem dX8_isDead_5 : decode cX8_isDead 5 = .ok (.iaload, 1) := by decide +kernel
theorem dX8_isDead_6 : decode cX8_isDead 6 = .ok (.aload_n 0, 1) := by decide +kernel
theorem dX8_isDead_7 : decode cX8_isDead 7 = .ok (.iload_n 1, 1) := by decide +kernel
theorem dX8_isDead_8 : decode cX8_isDead 8 = .ok (.invokevirtual 402, 3) := by decide +kernel
theorem dX8_isDead_11 : decode cX8_isDead 11 = .ok (.if_icmp .lt 7, 3) := by decide +kernel
theorem dX8_isDead_14 : decode cX8_isDead 14 = .ok (.iconst 1, 1) := by decide +kernel
theorem dX8_isDead_15 : decode cX8_isDead 15 = .ok (.goto 4, 3) := by decide +kernel
theorem dX8_isDead_18 : decode cX8_isDead 18 = .ok (.iconst 0, 1) := by decide +kernel
theorem dX8_isDead_19 : decode cX8_isDead 19 = .ok (.ireturn, 1) := by decide +kernel
theorem dX8_ageOf_0 : decode cX8_ageOf 0 = .ok (.aload_n 0, 1) := by decide +kernel
theorem dX8_ageOf_1 : decode cX8_ageOf 1 = .ok (.iload_n 1, 1) := by decide +kernel
theorem dX8_ageOf_2 : decode cX8_ageOf 2 = .ok (.invokevirtual 405, 3) := by decide +kernel
theorem dX8_ageOf_5 : decode cX8_ageOf 5 = .ok (.ifCond .eq 18, 3) := by decide +kernel
theorem dX8_ageOf_8 : decode cX8_ageOf 8 = .ok (.aload_n 0, 1) := by decide +kernel
theorem dX8_ageOf_9 : decode cX8_ageOf 9 = .ok (.getfield 133, 3) := by decide +kernel
theorem dX8_ageOf_12 : decode cX8_ageOf 12 = .ok (.iconst 0, 1) := by decide +kernel
theorem dX8_ageOf_13 : decode cX8_ageOf 13 = .ok (.iaload, 1) := by decide +kernel
theorem dX8_ageOf_14 : decode cX8_ageOf 14 = .ok (.aload_n 0, 1) := by decide +kernel
theorem dX8_ageOf_15 : decode cX8_ageOf 15 = .ok (.iload_n 1, 1) := by decide +kernel
theorem dX8_ageOf_16 : decode cX8_ageOf 16 = .ok (.invokevirtual 402, 3) := by decide +kernel
theorem dX8_ageOf_19 : decode cX8_ageOf 19 = .ok (.isub, 1) := by decide +kernel
theorem dX8_ageOf_20 : decode cX8_ageOf 20 = .ok (.goto 4, 3) := by decide +kernel
theorem dX8_ageOf_23 : decode cX8_ageOf 23 = .ok (.iconst 0, 1) := by decide +kernel
theorem dX8_ageOf_24 : decode cX8_ageOf 24 = .ok (.ireturn, 1) := by decide +kernel
theorem dX8_sinceOf_0 : decode cX8_sinceOf 0 = .ok (.aload_n 0, 1) := by decide +kernel
theorem dX8_sinceOf_1 : decode cX8_sinceOf 1 = .ok (.iload_n 1, 1) := by decide +kernel
theorem dX8_sinceOf_2 : decode cX8_sinceOf 2 = .ok (.invokevirtual 408, 3) := by decide +kernel
theorem dX8_sinceOf_5 : decode cX8_sinceOf 5 = .ok (.ifCond .ne 6, 3) := by decide +kernel
theorem dX8_sinceOf_8 : decode cX8_sinceOf 8 = .ok (.bipush 99, 2) := by decide +kernel
theorem dX8_sinceOf_10 : decode cX8_sinceOf 10 = .ok (.ireturn, 1) := by decide +kernel
theorem dX8_sinceOf_11 : decode cX8_sinceOf 11 = .ok (.aload_n 0, 1) := by decide +kernel
theorem dX8_sinceOf_12 : decode cX8_sinceOf 12 = .ok (.getfield 133, 3) := by decide +kernel
theorem dX8_sinceOf_15 : decode cX8_sinceOf 15 = .ok (.iconst 0, 1) := by decide +kernel
theorem dX8_sinceOf_16 : decode cX8_sinceOf 16 = .ok (.iaload, 1) := by decide +kernel
theorem dX8_sinceOf_17 : decode cX8_sinceOf 17 = .ok (.iconst 1, 1) := by decide +kernel
theorem dX8_sinceOf_18 : decode cX8_sinceOf 18 = .ok (.iadd, 1) := by decide +kernel
theorem dX8_sinceOf_19 : decode cX8_sinceOf 19 = .ok (.aload_n 0, 1) := by decide +kernel
theorem dX8_sinceOf_20 : decode cX8_sinceOf 20 = .ok (.iload_n 1, 1) := by decide +kernel
theorem dX8_sinceOf_21 : decode cX8_sinceOf 21 = .ok (.invokevirtual 408, 3) := by decide +kernel
theorem dX8_sinceOf_24 : decode cX8_sinceOf 24 = .ok (.isub, 1) := by decide +kernel
theorem dX8_sinceOf_25 : decode cX8_sinceOf 25 = .ok (.istore_n 2, 1) := by decide +kernel
theorem dX8_sinceOf_26 : decode cX8_sinceOf 26 = .ok (.iload_n 2, 1) := by decide +kernel
theorem dX8_sinceOf_27 : decode cX8_sinceOf 27 = .ok (.bipush 99, 2) := by decide +kernel
theorem dX8_sinceOf_29 : decode cX8_sinceOf 29 = .ok (.if_icmp .le 8, 3) := by decide +kernel
theorem dX8_sinceOf_32 : decode cX8_sinceOf 32 = .ok (.bipush 99, 2) := by decide +kernel
theorem dX8_sinceOf_34 : decode cX8_sinceOf 34 = .ok (.goto 4, 3) := by decide +kernel
theorem dX8_sinceOf_37 : decode cX8_sinceOf 37 = .ok (.iload_n 2, 1) := by decide +kernel
theorem dX8_sinceOf_38 : decode cX8_sinceOf 38 = .ok (.ireturn, 1) := by decide +kernel
theorem dX8_codesTell_0 : decode cX8_codesTell 0 = .ok (.aload_n 0, 1) := by decide +kernel
theorem dX8_codesTell_1 : decode cX8_codesTell 1 = .ok (.iload_n 1, 1) := by decide +kernel
theorem dX8_codesTell_2 : decode cX8_codesTell 2 = .ok (.ifCond .ne 7, 3) := by decide +kernel
theorem dX8_codesTell_5 : decode cX8_codesTell 5 = .ok (.iconst 0, 1) := by decide +kernel
theorem dX8_codesTell_6 : decode cX8_codesTell 6 = .ok (.goto 4, 3) := by decide +kernel
theorem dX8_codesTell_9 : decode cX8_codesTell 9 = .ok (.iconst 1, 1) := by decide +kernel
theorem dX8_codesTell_10 : decode cX8_codesTell 10 = .ok (.putfield 304, 3) := by decide +kernel
theorem dX8_codesTell_13 : decode cX8_codesTell 13 = .ok (.aload_n 0, 1) := by decide +kernel
theorem dX8_codesTell_14 : decode cX8_codesTell 14 = .ok (.iconst 0, 1) := by decide +kernel
theorem dX8_codesTell_15 : decode cX8_codesTell 15 = .ok (.putfield 411, 3) := by decide +kernel
theorem dX8_codesTell_18 : decode cX8_codesTell 18 = .ok (.aload_n 0, 1) := by decide +kernel
theorem dX8_codesTell_19 : decode cX8_codesTell 19 = .ok (.getfield 124, 3) := by decide +kernel
theorem dX8_codesTell_22 : decode cX8_codesTell 22 = .ok (.iconst 3, 1) := by decide +kernel
theorem dX8_codesTell_23 : decode cX8_codesTell 23 = .ok (.iload_n 1, 1) := by decide +kernel
theorem dX8_codesTell_24 : decode cX8_codesTell 24 = .ok (.iadd, 1) := by decide +kernel
theorem dX8_codesTell_25 : decode cX8_codesTell 25 = .ok (.iaload, 1) := by decide +kernel
theorem dX8_codesTell_26 : decode cX8_codesTell 26 = .ok (.istore_n 3, 1) := by decide +kernel
theorem dX8_codesTell_27 : decode cX8_codesTell 27 = .ok (.iload_n 3, 1) := by decide +kernel
theorem dX8_codesTell_28 : decode cX8_codesTell 28 = .ok (.aload_n 0, 1) := by decide +kernel
theorem dX8_codesTell_29 : decode cX8_codesTell 29 = .ok (.getfield 127, 3) := by decide +kernel
theorem dX8_codesTell_32 : decode cX8_codesTell 32 = .ok (.iconst 3, 1) := by decide +kernel
theorem dX8_codesTell_33 : decode cX8_codesTell 33 = .ok (.iload_n 1, 1) := by decide +kernel
theorem dX8_codesTell_34 : decode cX8_codesTell 34 = .ok (.iadd, 1) := by decide +kernel
theorem dX8_codesTell_35 : decode cX8_codesTell 35 = .ok (.iaload, 1) := by decide +kernel
theorem dX8_codesTell_36 : decode cX8_codesTell 36 = .ok (.if_icmp .ge 122, 3) := by decide +kernel
theorem dX8_codesTell_39 : decode cX8_codesTell 39 = .ok (.aload_n 0, 1) := by decide +kernel
theorem dX8_codesTell_40 : decode cX8_codesTell 40 = .ok (.getfield 130, 3) := by decide +kernel
theorem dX8_codesTell_43 : decode cX8_codesTell 43 = .ok (.sipush 1600, 3) := by decide +kernel
theorem dX8_codesTell_46 : decode cX8_codesTell 46 = .ok (.iload_n 3, 1) := by decide +kernel
theorem dX8_codesTell_47 : decode cX8_codesTell 47 = .ok (.iadd, 1) := by decide +kernel
theorem dX8_codesTell_48 : decode cX8_codesTell 48 = .ok (.iaload, 1) := by decide +kernel
theorem dX8_codesTell_49 : decode cX8_codesTell 49 = .ok (.istore 4, 2) := by decide +kernel
theorem dX8_codesTell_51 : decode cX8_codesTell 51 = .ok (.iload 4, 2) := by decide +kernel
theorem dX8_codesTell_53 : decode cX8_codesTell 53 = .ok (.sipush 1000, 3) := by decide +kernel
theorem dX8_codesTell_56 : decode cX8_codesTell 56 = .ok (.if_icmp .lt 17, 3) := by decide +kernel
theorem dX8_codesTell_59 : decode cX8_codesTell 59 = .ok (.aload_n 0, 1) := by decide +kernel
theorem dX8_codesTell_60 : decode cX8_codesTell 60 = .ok (.iload 4, 2) := by decide +kernel
theorem dX8_codesTell_62 : decode cX8_codesTell 62 = .ok (.sipush 1000, 3) := by decide +kernel
theorem dX8_codesTell_65 : decode cX8_codesTell 65 = .ok (.isub, 1) := by decide +kernel
theorem dX8_codesTell_66 : decode cX8_codesTell 66 = .ok (.i2l, 1) := by decide +kernel
theorem dX8_codesTell_67 : decode cX8_codesTell 67 = .ok (.invokevirtual 414, 3) := by decide +kernel
theorem dX8_codesTell_70 : decode cX8_codesTell 70 = .ok (.goto 82, 3) := by decide +kernel
theorem dX8_codesTell_73 : decode cX8_codesTell 73 = .ok (.iload 4, 2) := by decide +kernel
theorem dX8_codesTell_75 : decode cX8_codesTell 75 = .ok (.bipush 40, 2) := by decide +kernel
theorem dX8_codesTell_77 : decode cX8_codesTell 77 = .ok (.if_icmp .lt 20, 3) := by decide +kernel
theorem dX8_codesTell_80 : decode cX8_codesTell 80 = .ok (.aload_n 0, 1) := by decide +kernel
theorem dX8_codesTell_81 : decode cX8_codesTell 81 = .ok (.aload_n 0, 1) := by decide +kernel
theorem dX8_codesTell_82 : decode cX8_codesTell 82 = .ok (.iload 4, 2) := by decide +kernel
theorem dX8_codesTell_84 : decode cX8_codesTell 84 = .ok (.bipush 40, 2) := by decide +kernel
theorem dX8_codesTell_86 : decode cX8_codesTell 86 = .ok (.isub, 1) := by decide +kernel
theorem dX8_codesTell_87 : decode cX8_codesTell 87 = .ok (.iload_n 2, 1) := by decide +kernel
theorem dX8_codesTell_88 : decode cX8_codesTell 88 = .ok (.invokevirtual 418, 3) := by decide +kernel
theorem dX8_codesTell_91 : decode cX8_codesTell 91 = .ok (.invokevirtual 414, 3) := by decide +kernel
theorem dX8_codesTell_94 : decode cX8_codesTell 94 = .ok (.goto 58, 3) := by decide +kernel
theorem dX8_codesTell_97 : decode cX8_codesTell 97 = .ok (.iload 4, 2) := by decide +kernel
theorem dX8_codesTell_99 : decode cX8_codesTell 99 = .ok (.bipush 13, 2) := by decide +kernel
theorem dX8_codesTell_101 : decode cX8_codesTell 101 = .ok (.if_icmp .ne 11, 3) := by decide +kernel
theorem dX8_codesTell_104 : decode cX8_codesTell 104 = .ok (.aload_n 0, 1) := by decide +kernel
theorem dX8_codesTell_105 : decode cX8_codesTell 105 = .ok (.lconst 1, 1) := by decide +kernel
theorem dX8_codesTell_106 : decode cX8_codesTell 106 = .ok (.invokevirtual 414, 3) := by decide +kernel
theorem dX8_codesTell_109 : decode cX8_codesTell 109 = .ok (.goto 43, 3) := by decide +kernel
theorem dX8_codesTell_112 : decode cX8_codesTell 112 = .ok (.iload 4, 2) := by decide +kernel
theorem dX8_codesTell_114 : decode cX8_codesTell 114 = .ok (.bipush 12, 2) := by decide +kernel
theorem dX8_codesTell_116 : decode cX8_codesTell 116 = .ok (.if_icmp .ne 30, 3) := by decide +kernel
theorem dX8_codesTell_119 : decode cX8_codesTell 119 = .ok (.aload_n 0, 1) := by decide +kernel
theorem dX8_codesTell_120 : decode cX8_codesTell 120 = .ok (.getfield 240, 3) := by decide +kernel
theorem dX8_codesTell_123 : decode cX8_codesTell 123 = .ok (.aload_n 0, 1) := by decide +kernel
theorem dX8_codesTell_124 : decode cX8_codesTell 124 = .ok (.getfield 411, 3) := by decide +kernel
theorem dX8_codesTell_127 : decode cX8_codesTell 127 = .ok (.iconst 1, 1) := by decide +kernel
theorem dX8_codesTell_128 : decode cX8_codesTell 128 = .ok (.isub, 1) := by decide +kernel
theorem dX8_codesTell_129 : decode cX8_codesTell 129 = .ok (.lconst 1, 1) := by decide +kernel
theorem dX8_codesTell_130 : decode cX8_codesTell 130 = .ok (.aload_n 0, 1) := by decide +kernel
theorem dX8_codesTell_131 : decode cX8_codesTell 131 = .ok (.getfield 240, 3) := by decide +kernel
theorem dX8_codesTell_134 : decode cX8_codesTell 134 = .ok (.aload_n 0, 1) := by decide +kernel
theorem dX8_codesTell_135 : decode cX8_codesTell 135 = .ok (.getfield 411, 3) := by decide +kernel
theorem dX8_codesTell_138 : decode cX8_codesTell 138 = .ok (.iconst 1, 1) := by decide +kernel
theorem dX8_codesTell_139 : decode cX8_codesTell 139 = .ok (.isub, 1) := by decide +kernel
theorem dX8_codesTell_140 : decode cX8_codesTell 140 = .ok (.laload, 1) := by decide +kernel
theorem dX8_codesTell_141 : decode cX8_codesTell 141 = .ok (.lsub, 1) := by decide +kernel
theorem dX8_codesTell_142 : decode cX8_codesTell 142 = .ok (.lastore, 1) := by decide +kernel
theorem dX8_codesTell_143 : decode cX8_codesTell 143 = .ok (.goto 9, 3) := by decide +kernel
theorem dX8_codesTell_146 : decode cX8_codesTell 146 = .ok (.aload_n 0, 1) := by decide +kernel
theorem dX8_codesTell_147 : decode cX8_codesTell 147 = .ok (.iload 4, 2) := by decide +kernel
theorem dX8_codesTell_149 : decode cX8_codesTell 149 = .ok (.invokevirtual 422, 3) := by decide +kernel
theorem dX8_codesTell_152 : decode cX8_codesTell 152 = .ok (.iinc 3 1, 3) := by decide +kernel
theorem dX8_codesTell_155 : decode cX8_codesTell 155 = .ok (.goto (-128), 3) := by decide +kernel
theorem dX8_codesTell_158 : decode cX8_codesTell 158 = .ok (.aload_n 0, 1) := by decide +kernel
theorem dX8_codesTell_159 : decode cX8_codesTell 159 = .ok (.getfield 240, 3) := by decide +kernel
theorem dX8_codesTell_162 : decode cX8_codesTell 162 = .ok (.iconst 0, 1) := by decide +kernel
theorem dX8_codesTell_163 : decode cX8_codesTell 163 = .ok (.laload, 1) := by decide +kernel
theorem dX8_codesTell_164 : decode cX8_codesTell 164 = .ok (.lreturn, 1) := by decide +kernel
theorem dX8_canPlay_0 : decode cX8_canPlay 0 = .ok (.aload_n 0, 1) := by decide +kernel
theorem dX8_canPlay_1 : decode cX8_canPlay 1 = .ok (.iload_n 1, 1) := by decide +kernel
theorem dX8_canPlay_2 : decode cX8_canPlay 2 = .ok (.invokevirtual 405, 3) := by decide +kernel
theorem dX8_canPlay_5 : decode cX8_canPlay 5 = .ok (.ifCond .eq 36, 3) := by decide +kernel
theorem dX8_canPlay_8 : decode cX8_canPlay 8 = .ok (.aload_n 0, 1) := by decide +kernel
theorem dX8_canPlay_9 : decode cX8_canPlay 9 = .ok (.iload_n 1, 1) := by decide +kernel
theorem dX8_canPlay_10 : decode cX8_canPlay 10 = .ok (.invokevirtual 425, 3) := by decide +kernel
theorem dX8_canPlay_13 : decode cX8_canPlay 13 = .ok (.ifCond .le 28, 3) := by decide +kernel
theorem dX8_canPlay_16 : decode cX8_canPlay 16 = .ok (.aload_n 0, 1) := by decide +kernel
theorem dX8_canPlay_17 : decode cX8_canPlay 17 = .ok (.getfield 124, 3) := by decide +kernel
theorem dX8_canPlay_20 : decode cX8_canPlay 20 = .ok (.iconst 4, 1) := by decide +kernel
theorem dX8_canPlay_21 : decode cX8_canPlay 21 = .ok (.iaload, 1) := by decide +kernel
theorem dX8_canPlay_22 : decode cX8_canPlay 22 = .ok (.iconst (-1), 1) := by decide +kernel
theorem dX8_canPlay_23 : decode cX8_canPlay 23 = .ok (.if_icmp .eq 14, 3) := by decide +kernel
theorem dX8_canPlay_26 : decode cX8_canPlay 26 = .ok (.aload_n 0, 1) := by decide +kernel
theorem dX8_canPlay_27 : decode cX8_canPlay 27 = .ok (.iconst 1, 1) := by decide +kernel
theorem dX8_canPlay_28 : decode cX8_canPlay 28 = .ok (.iload_n 1, 1) := by decide +kernel
theorem dX8_canPlay_29 : decode cX8_canPlay 29 = .ok (.invokevirtual 428, 3) := by decide +kernel
theorem dX8_canPlay_32 : decode cX8_canPlay 32 = .ok (.lconst 1, 1) := by decide +kernel
theorem dX8_canPlay_33 : decode cX8_canPlay 33 = .ok (.lcmp, 1) := by decide +kernel
theorem dX8_canPlay_34 : decode cX8_canPlay 34 = .ok (.ifCond .ne 7, 3) := by decide +kernel
theorem dX8_canPlay_37 : decode cX8_canPlay 37 = .ok (.iconst 1, 1) := by decide +kernel
theorem dX8_canPlay_38 : decode cX8_canPlay 38 = .ok (.goto 4, 3) := by decide +kernel
theorem dX8_canPlay_41 : decode cX8_canPlay 41 = .ok (.iconst 0, 1) := by decide +kernel
theorem dX8_canPlay_42 : decode cX8_canPlay 42 = .ok (.ireturn, 1) := by decide +kernel
theorem dX8_worthOf_0 : decode cX8_worthOf 0 = .ok (.aload_n 0, 1) := by decide +kernel
theorem dX8_worthOf_1 : decode cX8_worthOf 1 = .ok (.getfield 124, 3) := by decide +kernel
theorem dX8_worthOf_4 : decode cX8_worthOf 4 = .ok (.iconst 5, 1) := by decide +kernel
theorem dX8_worthOf_5 : decode cX8_worthOf 5 = .ok (.iaload, 1) := by decide +kernel
theorem dX8_worthOf_6 : decode cX8_worthOf 6 = .ok (.iconst (-1), 1) := by decide +kernel
theorem dX8_worthOf_7 : decode cX8_worthOf 7 = .ok (.if_icmp .ne 12, 3) := by decide +kernel
theorem dX8_worthOf_10 : decode cX8_worthOf 10 = .ok (.aload_n 0, 1) := by decide +kernel
theorem dX8_worthOf_11 : decode cX8_worthOf 11 = .ok (.iload_n 1, 1) := by decide +kernel
theorem dX8_worthOf_12 : decode cX8_worthOf 12 = .ok (.invokevirtual 425, 3) := by decide +kernel
theorem dX8_worthOf_15 : decode cX8_worthOf 15 = .ok (.i2l, 1) := by decide +kernel
theorem dX8_worthOf_16 : decode cX8_worthOf 16 = .ok (.goto 9, 3) := by decide +kernel
theorem dX8_worthOf_19 : decode cX8_worthOf 19 = .ok (.aload_n 0, 1) := by decide +kernel
theorem dX8_worthOf_20 : decode cX8_worthOf 20 = .ok (.iconst 2, 1) := by decide +kernel
theorem dX8_worthOf_21 : decode cX8_worthOf 21 = .ok (.iload_n 1, 1) := by decide +kernel
theorem dX8_worthOf_22 : decode cX8_worthOf 22 = .ok (.invokevirtual 428, 3) := by decide +kernel
theorem dX8_worthOf_25 : decode cX8_worthOf 25 = .ok (.lreturn, 1) := by decide +kernel
theorem dX8_fadedOf_0 : decode cX8_fadedOf 0 = .ok (.aload_n 0, 1) := by decide +kernel
theorem dX8_fadedOf_1 : decode cX8_fadedOf 1 = .ok (.getfield 124, 3) := by decide +kernel
theorem dX8_fadedOf_4 : decode cX8_fadedOf 4 = .ok (.iconst 3, 1) := by decide +kernel
theorem dX8_fadedOf_5 : decode cX8_fadedOf 5 = .ok (.iaload, 1) := by decide +kernel
theorem dX8_fadedOf_6 : decode cX8_fadedOf 6 = .ok (.iconst (-1), 1) := by decide +kernel
theorem dX8_fadedOf_7 : decode cX8_fadedOf 7 = .ok (.if_icmp .ne 14, 3) := by decide +kernel
theorem dX8_fadedOf_10 : decode cX8_fadedOf 10 = .ok (.aload_n 0, 1) := by decide +kernel
theorem dX8_fadedOf_11 : decode cX8_fadedOf 11 = .ok (.iload_n 1, 1) := by decide +kernel
theorem dX8_fadedOf_12 : decode cX8_fadedOf 12 = .ok (.invokevirtual 425, 3) := by decide +kernel
theorem dX8_fadedOf_15 : decode cX8_fadedOf 15 = .ok (.iconst 1, 1) := by decide +kernel
theorem dX8_fadedOf_16 : decode cX8_fadedOf 16 = .ok (.isub, 1) := by decide +kernel
theorem dX8_fadedOf_17 : decode cX8_fadedOf 17 = .ok (.i2l, 1) := by decide +kernel
theorem dX8_fadedOf_18 : decode cX8_fadedOf 18 = .ok (.goto 9, 3) := by decide +kernel
theorem dX8_fadedOf_21 : decode cX8_fadedOf 21 = .ok (.aload_n 0, 1) := by decide +kernel
theorem dX8_fadedOf_22 : decode cX8_fadedOf 22 = .ok (.iconst 0, 1) := by decide +kernel
theorem dX8_fadedOf_23 : decode cX8_fadedOf 23 = .ok (.iload_n 1, 1) := by decide +kernel
theorem dX8_fadedOf_24 : decode cX8_fadedOf 24 = .ok (.invokevirtual 428, 3) := by decide +kernel
theorem dX8_fadedOf_27 : decode cX8_fadedOf 27 = .ok (.lstore_n 2, 1) := by decide +kernel
theorem dX8_fadedOf_28 : decode cX8_fadedOf 28 = .ok (.lload_n 2, 1) := by decide +kernel
theorem dX8_fadedOf_29 : decode cX8_fadedOf 29 = .ok (.lconst 0, 1) := by decide +kernel
theorem dX8_fadedOf_30 : decode cX8_fadedOf 30 = .ok (.lcmp, 1) := by decide +kernel
theorem dX8_fadedOf_31 : decode cX8_fadedOf 31 = .ok (.ifCond .ge 7, 3) := by decide +kernel
theorem dX8_fadedOf_34 : decode cX8_fadedOf 34 = .ok (.iconst 0, 1) := by decide +kernel
theorem dX8_fadedOf_35 : decode cX8_fadedOf 35 = .ok (.goto 18, 3) := by decide +kernel
theorem dX8_fadedOf_38 : decode cX8_fadedOf 38 = .ok (.lload_n 2, 1) := by decide +kernel
theorem dX8_fadedOf_39 : decode cX8_fadedOf 39 = .ok (.ldc2_w 431, 3) := by decide +kernel
theorem dX8_fadedOf_42 : decode cX8_fadedOf 42 = .ok (.lcmp, 1) := by decide +kernel
theorem dX8_fadedOf_43 : decode cX8_fadedOf 43 = .ok (.ifCond .le 8, 3) := by decide +kernel
theorem dX8_fadedOf_46 : decode cX8_fadedOf 46 = .ok (.bipush 99, 2) := by decide +kernel
theorem dX8_fadedOf_48 : decode cX8_fadedOf 48 = .ok (.goto 5, 3) := by decide +kernel
theorem dX8_fadedOf_51 : decode cX8_fadedOf 51 = .ok (.lload_n 2, 1) := by decide +kernel
theorem dX8_fadedOf_52 : decode cX8_fadedOf 52 = .ok (.l2i, 1) := by decide +kernel
theorem dX8_fadedOf_53 : decode cX8_fadedOf 53 = .ok (.ireturn, 1) := by decide +kernel
theorem dX8_laysCan_0 : decode cX8_laysCan 0 = .ok (.aload_n 0, 1) := by decide +kernel
theorem dX8_laysCan_1 : decode cX8_laysCan 1 = .ok (.iconst 0, 1) := by decide +kernel
theorem dX8_laysCan_2 : decode cX8_laysCan 2 = .ok (.putfield 433, 3) := by decide +kernel
theorem dX8_laysCan_5 : decode cX8_laysCan 5 = .ok (.iconst 0, 1) := by decide +kernel
theorem dX8_laysCan_6 : decode cX8_laysCan 6 = .ok (.istore_n 1, 1) := by decide +kernel
theorem dX8_laysCan_7 : decode cX8_laysCan 7 = .ok (.iload_n 1, 1) := by decide +kernel
theorem dX8_laysCan_8 : decode cX8_laysCan 8 = .ok (.aload_n 0, 1) := by decide +kernel
theorem dX8_laysCan_9 : decode cX8_laysCan 9 = .ok (.invokevirtual 395, 3) := by decide +kernel
theorem dX8_laysCan_12 : decode cX8_laysCan 12 = .ok (.if_icmp .ge 40, 3) := by decide +kernel
theorem dX8_laysCan_15 : decode cX8_laysCan 15 = .ok (.aload_n 0, 1) := by decide +kernel
theorem dX8_laysCan_16 : decode cX8_laysCan 16 = .ok (.iload_n 1, 1) := by decide +kernel
theorem dX8_laysCan_17 : decode cX8_laysCan 17 = .ok (.invokevirtual 436, 3) := by decide +kernel
theorem dX8_laysCan_20 : decode cX8_laysCan 20 = .ok (.ifCond .eq 26, 3) := by decide +kernel
theorem dX8_laysCan_23 : decode cX8_laysCan 23 = .ok (.aload_n 0, 1) := by decide +kernel
theorem dX8_laysCan_24 : decode cX8_laysCan 24 = .ok (.dup, 1) := by decide +kernel
theorem dX8_laysCan_25 : decode cX8_laysCan 25 = .ok (.getfield 433, 3) := by decide +kernel
theorem dX8_laysCan_28 : decode cX8_laysCan 28 = .ok (.iconst 1, 1) := by decide +kernel
theorem dX8_laysCan_29 : decode cX8_laysCan 29 = .ok (.iload_n 1, 1) := by decide +kernel
theorem dX8_laysCan_30 : decode cX8_laysCan 30 = .ok (.ishl, 1) := by decide +kernel
theorem dX8_laysCan_31 : decode cX8_laysCan 31 = .ok (.ior, 1) := by decide +kernel
theorem dX8_laysCan_32 : decode cX8_laysCan 32 = .ok (.putfield 433, 3) := by decide +kernel
theorem dX8_laysCan_35 : decode cX8_laysCan 35 = .ok (.aload_n 0, 1) := by decide +kernel
theorem dX8_laysCan_36 : decode cX8_laysCan 36 = .ok (.getfield 139, 3) := by decide +kernel
theorem dX8_laysCan_39 : decode cX8_laysCan 39 = .ok (.iload_n 1, 1) := by decide +kernel
theorem dX8_laysCan_40 : decode cX8_laysCan 40 = .ok (.aload_n 0, 1) := by decide +kernel
theorem dX8_laysCan_41 : decode cX8_laysCan 41 = .ok (.iload_n 1, 1) := by decide +kernel
theorem dX8_laysCan_42 : decode cX8_laysCan 42 = .ok (.invokevirtual 439, 3) := by decide +kernel
theorem dX8_laysCan_45 : decode cX8_laysCan 45 = .ok (.lastore, 1) := by decide +kernel
theorem dX8_laysCan_46 : decode cX8_laysCan 46 = .ok (.iinc 1 1, 3) := by decide +kernel
theorem dX8_laysCan_49 : decode cX8_laysCan 49 = .ok (.goto (-42), 3) := by decide +kernel
theorem dX8_laysCan_52 : decode cX8_laysCan 52 = .ok (.return_, 1) := by decide +kernel
theorem dX8_minutesOf_0 : decode cX8_minutesOf 0 = .ok (.iconst 0, 1) := by decide +kernel
theorem dX8_minutesOf_1 : decode cX8_minutesOf 1 = .ok (.istore_n 2, 1) := by decide +kernel
theorem dX8_minutesOf_2 : decode cX8_minutesOf 2 = .ok (.iconst 0, 1) := by decide +kernel
theorem dX8_minutesOf_3 : decode cX8_minutesOf 3 = .ok (.istore_n 3, 1) := by decide +kernel
theorem dX8_minutesOf_4 : decode cX8_minutesOf 4 = .ok (.iload_n 3, 1) := by decide +kernel
theorem dX8_minutesOf_5 : decode cX8_minutesOf 5 = .ok (.aload_n 0, 1) := by decide +kernel
theorem dX8_minutesOf_6 : decode cX8_minutesOf 6 = .ok (.invokevirtual 395, 3) := by decide +kernel
theorem dX8_minutesOf_9 : decode cX8_minutesOf 9 = .ok (.if_icmp .ge 26, 3) := by decide +kernel
theorem dX8_minutesOf_12 : decode cX8_minutesOf 12 = .ok (.iload_n 1, 1) := by decide +kernel
theorem dX8_minutesOf_13 : decode cX8_minutesOf 13 = .ok (.iload_n 3, 1) := by decide +kernel
theorem dX8_minutesOf_14 : decode cX8_minutesOf 14 = .ok (.ishr, 1) := by decide +kernel
theorem dX8_minutesOf_15 : decode cX8_minutesOf 15 = .ok (.iconst 1, 1) := by decide +kernel
theorem dX8_minutesOf_16 : decode cX8_minutesOf 16 = .ok (.iand, 1) := by decide +kernel
theorem dX8_minutesOf_17 : decode cX8_minutesOf 17 = .ok (.iconst 1, 1) := by decide +kernel
theorem dX8_minutesOf_18 : decode cX8_minutesOf 18 = .ok (.if_icmp .ne 11, 3) := by decide +kernel
theorem dX8_minutesOf_21 : decode cX8_minutesOf 21 = .ok (.iload_n 2, 1) := by decide +kernel
theorem dX8_minutesOf_22 : decode cX8_minutesOf 22 = .ok (.aload_n 0, 1) := by decide +kernel
theorem dX8_minutesOf_23 : decode cX8_minutesOf 23 = .ok (.iload_n 3, 1) := by decide +kernel
theorem dX8_minutesOf_24 : decode cX8_minutesOf 24 = .ok (.invokevirtual 443, 3) := by decide +kernel
theorem dX8_minutesOf_27 : decode cX8_minutesOf 27 = .ok (.iadd, 1) := by decide +kernel
theorem dX8_minutesOf_28 : decode cX8_minutesOf 28 = .ok (.istore_n 2, 1) := by decide +kernel
theorem dX8_minutesOf_29 : decode cX8_minutesOf 29 = .ok (.iinc 3 1, 3) := by decide +kernel
theorem dX8_minutesOf_32 : decode cX8_minutesOf 32 = .ok (.goto (-28), 3) := by decide +kernel
theorem dX8_minutesOf_35 : decode cX8_minutesOf 35 = .ok (.iload_n 2, 1) := by decide +kernel
theorem dX8_minutesOf_36 : decode cX8_minutesOf 36 = .ok (.ireturn, 1) := by decide +kernel
theorem dX8_worthBy_0 : decode cX8_worthBy 0 = .ok (.lconst 0, 1) := by decide +kernel
theorem dX8_worthBy_1 : decode cX8_worthBy 1 = .ok (.lstore_n 2, 1) := by decide +kernel
theorem dX8_worthBy_2 : decode cX8_worthBy 2 = .ok (.iconst 0, 1) := by decide +kernel
theorem dX8_worthBy_3 : decode cX8_worthBy 3 = .ok (.istore 4, 2) := by decide +kernel
theorem dX8_worthBy_5 : decode cX8_worthBy 5 = .ok (.iload 4, 2) := by decide +kernel
theorem dX8_worthBy_7 : decode cX8_worthBy 7 = .ok (.aload_n 0, 1) := by decide +kernel
theorem dX8_worthBy_8 : decode cX8_worthBy 8 = .ok (.invokevirtual 395, 3) := by decide +kernel
theorem dX8_worthBy_11 : decode cX8_worthBy 11 = .ok (.if_icmp .ge 29, 3) := by decide +kernel
theorem dX8_worthBy_14 : decode cX8_worthBy 14 = .ok (.iload_n 1, 1) := by decide +kernel
theorem dX8_worthBy_15 : decode cX8_worthBy 15 = .ok (.iload 4, 2) := by decide +kernel
theorem dX8_worthBy_17 : decode cX8_worthBy 17 = .ok (.ishr, 1) := by decide +kernel
theorem dX8_worthBy_18 : decode cX8_worthBy 18 = .ok (.iconst 1, 1) := by decide +kernel
theorem dX8_worthBy_19 : decode cX8_worthBy 19 = .ok (.iand, 1) := by decide +kernel
theorem dX8_worthBy_20 : decode cX8_worthBy 20 = .ok (.iconst 1, 1) := by decide +kernel
theorem dX8_worthBy_21 : decode cX8_worthBy 21 = .ok (.if_icmp .ne 13, 3) := by decide +kernel
theorem dX8_worthBy_24 : decode cX8_worthBy 24 = .ok (.lload_n 2, 1) := by decide +kernel
theorem dX8_worthBy_25 : decode cX8_worthBy 25 = .ok (.aload_n 0, 1) := by decide +kernel
theorem dX8_worthBy_26 : decode cX8_worthBy 26 = .ok (.getfield 139, 3) := by decide +kernel
theorem dX8_worthBy_29 : decode cX8_worthBy 29 = .ok (.iload 4, 2) := by decide +kernel
theorem dX8_worthBy_31 : decode cX8_worthBy 31 = .ok (.laload, 1) := by decide +kernel
theorem dX8_worthBy_32 : decode cX8_worthBy 32 = .ok (.ladd, 1) := by decide +kernel
theorem dX8_worthBy_33 : decode cX8_worthBy 33 = .ok (.lstore_n 2, 1) := by decide +kernel
theorem dX8_worthBy_34 : decode cX8_worthBy 34 = .ok (.iinc 4 1, 3) := by decide +kernel
theorem dX8_worthBy_37 : decode cX8_worthBy 37 = .ok (.goto (-32), 3) := by decide +kernel
theorem dX8_worthBy_40 : decode cX8_worthBy 40 = .ok (.lload_n 2, 1) := by decide +kernel
theorem dX8_worthBy_41 : decode cX8_worthBy 41 = .ok (.lreturn, 1) := by decide +kernel
theorem dX8_laysBest_0 : decode cX8_laysBest 0 = .ok (.aload_n 0, 1) := by decide +kernel
theorem dX8_laysBest_1 : decode cX8_laysBest 1 = .ok (.invokevirtual 446, 3) := by decide +kernel
theorem dX8_laysBest_4 : decode cX8_laysBest 4 = .ok (.aload_n 0, 1) := by decide +kernel
theorem dX8_laysBest_5 : decode cX8_laysBest 5 = .ok (.iconst 0, 1) := by decide +kernel
theorem dX8_laysBest_6 : decode cX8_laysBest 6 = .ok (.putfield 449, 3) := by decide +kernel
theorem dX8_laysBest_9 : decode cX8_laysBest 9 = .ok (.aload_n 0, 1) := by decide +kernel
theorem dX8_laysBest_10 : decode cX8_laysBest 10 = .ok (.iconst 0, 1) := by decide +kernel
theorem dX8_laysBest_11 : decode cX8_laysBest 11 = .ok (.putfield 452, 3) := by decide +kernel
theorem dX8_laysBest_14 : decode cX8_laysBest 14 = .ok (.lconst 0, 1) := by decide +kernel
theorem dX8_laysBest_15 : decode cX8_laysBest 15 = .ok (.lstore_n 1, 1) := by decide +kernel
theorem dX8_laysBest_16 : decode cX8_laysBest 16 = .ok (.iconst 1, 1) := by decide +kernel
theorem dX8_laysBest_17 : decode cX8_laysBest 17 = .ok (.istore_n 3, 1) := by decide +kernel
theorem dX8_laysBest_18 : decode cX8_laysBest 18 = .ok (.iload_n 3, 1) := by decide +kernel
theorem dX8_laysBest_19 : decode cX8_laysBest 19 = .ok (.iconst 1, 1) := by decide +kernel
theorem dX8_laysBest_20 : decode cX8_laysBest 20 = .ok (.aload_n 0, 1) := by decide +kernel
theorem dX8_laysBest_21 : decode cX8_laysBest 21 = .ok (.invokevirtual 395, 3) := by decide +kernel
theorem dX8_laysBest_24 : decode cX8_laysBest 24 = .ok (.ishl, 1) := by decide +kernel
theorem dX8_laysBest_25 : decode cX8_laysBest 25 = .ok (.if_icmp .ge 91, 3) := by decide +kernel
theorem dX8_laysBest_28 : decode cX8_laysBest 28 = .ok (.iload_n 3, 1) := by decide +kernel
theorem dX8_laysBest_29 : decode cX8_laysBest 29 = .ok (.aload_n 0, 1) := by decide +kernel
theorem dX8_laysBest_30 : decode cX8_laysBest 30 = .ok (.getfield 433, 3) := by decide +kernel
theorem dX8_laysBest_33 : decode cX8_laysBest 33 = .ok (.iconst (-1), 1) := by decide +kernel
theorem dX8_laysBest_34 : decode cX8_laysBest 34 = .ok (.ixor, 1) := by decide +kernel
theorem dX8_laysBest_35 : decode cX8_laysBest 35 = .ok (.iand, 1) := by decide +kernel
theorem dX8_laysBest_36 : decode cX8_laysBest 36 = .ok (.ifCond .eq 6, 3) := by decide +kernel
theorem dX8_laysBest_39 : decode cX8_laysBest 39 = .ok (.goto 71, 3) := by decide +kernel
theorem dX8_laysBest_42 : decode cX8_laysBest 42 = .ok (.aload_n 0, 1) := by decide +kernel
theorem dX8_laysBest_43 : decode cX8_laysBest 43 = .ok (.iload_n 3, 1) := by decide +kernel
theorem dX8_laysBest_44 : decode cX8_laysBest 44 = .ok (.invokevirtual 455, 3) := by decide +kernel
theorem dX8_laysBest_47 : decode cX8_laysBest 47 = .ok (.istore 4, 2) := by decide +kernel
theorem dX8_laysBest_49 : decode cX8_laysBest 49 = .ok (.iload 4, 2) := by decide +kernel
theorem dX8_laysBest_51 : decode cX8_laysBest 51 = .ok (.aload_n 0, 1) := by decide +kernel
theorem dX8_laysBest_52 : decode cX8_laysBest 52 = .ok (.getfield 105, 3) := by decide +kernel
theorem dX8_laysBest_55 : decode cX8_laysBest 55 = .ok (.iconst 3, 1) := by decide +kernel
theorem dX8_laysBest_56 : decode cX8_laysBest 56 = .ok (.iaload, 1) := by decide +kernel
theorem dX8_laysBest_57 : decode cX8_laysBest 57 = .ok (.if_icmp .le 6, 3) := by decide +kernel
theorem dX8_laysBest_60 : decode cX8_laysBest 60 = .ok (.goto 50, 3) := by decide +kernel
theorem dX8_laysBest_63 : decode cX8_laysBest 63 = .ok (.aload_n 0, 1) := by decide +kernel
theorem dX8_laysBest_64 : decode cX8_laysBest 64 = .ok (.iload_n 3, 1) := by decide +kernel
theorem dX8_laysBest_65 : decode cX8_laysBest 65 = .ok (.invokevirtual 458, 3) := by decide +kernel
theorem dX8_laysBest_68 : decode cX8_laysBest 68 = .ok (.lstore 5, 2) := by decide +kernel
theorem dX8_laysBest_70 : decode cX8_laysBest 70 = .ok (.lload 5, 2) := by decide +kernel
theorem dX8_laysBest_72 : decode cX8_laysBest 72 = .ok (.lload_n 1, 1) := by decide +kernel
theorem dX8_laysBest_73 : decode cX8_laysBest 73 = .ok (.lcmp, 1) := by decide +kernel
theorem dX8_laysBest_74 : decode cX8_laysBest 74 = .ok (.ifCond .lt 36, 3) := by decide +kernel
theorem dX8_laysBest_77 : decode cX8_laysBest 77 = .ok (.lload 5, 2) := by decide +kernel
theorem dX8_laysBest_79 : decode cX8_laysBest 79 = .ok (.lload_n 1, 1) := by decide +kernel
theorem dX8_laysBest_80 : decode cX8_laysBest 80 = .ok (.lcmp, 1) := by decide +kernel
theorem dX8_laysBest_81 : decode cX8_laysBest 81 = .ok (.ifCond .ne 15, 3) := by decide +kernel
theorem dX8_laysBest_84 : decode cX8_laysBest 84 = .ok (.iload 4, 2) := by decide +kernel
theorem dX8_laysBest_86 : decode cX8_laysBest 86 = .ok (.aload_n 0, 1) := by decide +kernel
theorem dX8_laysBest_87 : decode cX8_laysBest 87 = .ok (.getfield 452, 3) := by decide +kernel
theorem dX8_laysBest_90 : decode cX8_laysBest 90 = .ok (.if_icmp .lt 6, 3) := by decide +kernel
theorem dX8_laysBest_93 : decode cX8_laysBest 93 = .ok (.goto 17, 3) := by decide +kernel
theorem dX8_laysBest_96 : decode cX8_laysBest 96 = .ok (.aload_n 0, 1) := by decide +kernel
theorem dX8_laysBest_97 : decode cX8_laysBest 97 = .ok (.iload_n 3, 1) := by decide +kernel
theorem dX8_laysBest_98 : decode cX8_laysBest 98 = .ok (.putfield 449, 3) := by decide +kernel
theorem dX8_laysBest_101 : decode cX8_laysBest 101 = .ok (.aload_n 0, 1) := by decide +kernel
theorem dX8_laysBest_102 : decode cX8_laysBest 102 = .ok (.iload 4, 2) := by decide +kernel
theorem dX8_laysBest_104 : decode cX8_laysBest 104 = .ok (.putfield 452, 3) := by decide +kernel
theorem dX8_laysBest_107 : decode cX8_laysBest 107 = .ok (.lload 5, 2) := by decide +kernel
theorem dX8_laysBest_109 : decode cX8_laysBest 109 = .ok (.lstore_n 1, 1) := by decide +kernel
theorem dX8_laysBest_110 : decode cX8_laysBest 110 = .ok (.iinc 3 1, 3) := by decide +kernel
theorem dX8_laysBest_113 : decode cX8_laysBest 113 = .ok (.goto (-95), 3) := by decide +kernel
theorem dX8_laysBest_116 : decode cX8_laysBest 116 = .ok (.return_, 1) := by decide +kernel
theorem dX8_bits_0 : decode cX8_bits 0 = .ok (.iconst 0, 1) := by decide +kernel
theorem dX8_bits_1 : decode cX8_bits 1 = .ok (.istore_n 1, 1) := by decide +kernel
theorem dX8_bits_2 : decode cX8_bits 2 = .ok (.iload_n 0, 1) := by decide +kernel
theorem dX8_bits_3 : decode cX8_bits 3 = .ok (.istore_n 2, 1) := by decide +kernel
theorem dX8_bits_4 : decode cX8_bits 4 = .ok (.iload_n 2, 1) := by decide +kernel
theorem dX8_bits_5 : decode cX8_bits 5 = .ok (.ifCond .eq 15, 3) := by decide +kernel
theorem dX8_bits_8 : decode cX8_bits 8 = .ok (.iinc 1 1, 3) := by decide +kernel
theorem dX8_bits_11 : decode cX8_bits 11 = .ok (.iload_n 2, 1) := by decide +kernel
theorem dX8_bits_12 : decode cX8_bits 12 = .ok (.iload_n 2, 1) := by decide +kernel
theorem dX8_bits_13 : decode cX8_bits 13 = .ok (.iconst 1, 1) := by decide +kernel
theorem dX8_bits_14 : decode cX8_bits 14 = .ok (.isub, 1) := by decide +kernel
theorem dX8_bits_15 : decode cX8_bits 15 = .ok (.iand, 1) := by decide +kernel
theorem dX8_bits_16 : decode cX8_bits 16 = .ok (.istore_n 2, 1) := by decide +kernel
theorem dX8_bits_17 : decode cX8_bits 17 = .ok (.goto (-13), 3) := by decide +kernel
theorem dX8_bits_20 : decode cX8_bits 20 = .ok (.iload_n 1, 1) := by decide +kernel
theorem dX8_bits_21 : decode cX8_bits 21 = .ok (.ireturn, 1) := by decide +kernel
theorem dX8_isKept_0 : decode cX8_isKept 0 = .ok (.aload_n 0, 1) := by decide +kernel
theorem dX8_isKept_1 : decode cX8_isKept 1 = .ok (.getfield 461, 3) := by decide +kernel
theorem dX8_isKept_4 : decode cX8_isKept 4 = .ok (.ifCond .eq 4, 3) := by decide +kernel
theorem dX8_isKept_7 : decode cX8_isKept 7 = .ok (.return_, 1) := by decide +kernel
theorem dX8_isKept_8 : decode cX8_isKept 8 = .ok (.aload_n 0, 1) := by decide +kernel
theorem dX8_isKept_9 : decode cX8_isKept 9 = .ok (.getfield 133, 3) := by decide +kernel
theorem dX8_isKept_12 : decode cX8_isKept 12 = .ok (.bipush 42, 2) := by decide +kernel
theorem dX8_isKept_14 : decode cX8_isKept 14 = .ok (.iaload, 1) := by decide +kernel
theorem dX8_isKept_15 : decode cX8_isKept 15 = .ok (.bipush 40, 2) := by decide +kernel
theorem dX8_isKept_17 : decode cX8_isKept 17 = .ok (.if_icmp .ne 36, 3) := by decide +kernel
theorem dX8_isKept_20 : decode cX8_isKept 20 = .ok (.bipush 43, 2) := by decide +kernel
theorem dX8_isKept_22 : decode cX8_isKept 22 = .ok (.istore_n 3, 1) := by decide +kernel
theorem dX8_isKept_23 : decode cX8_isKept 23 = .ok (.iload_n 3, 1) := by decide +kernel
theorem dX8_isKept_24 : decode cX8_isKept 24 = .ok (.sipush 160, 3) := by decide +kernel
theorem dX8_isKept_27 : decode cX8_isKept 27 = .ok (.if_icmp .ge 23, 3) := by decide +kernel
theorem dX8_isKept_30 : decode cX8_isKept 30 = .ok (.aload_n 0, 1) := by decide +kernel
theorem dX8_isKept_31 : decode cX8_isKept 31 = .ok (.getfield 133, 3) := by decide +kernel
theorem dX8_isKept_34 : decode cX8_isKept 34 = .ok (.iload_n 3, 1) := by decide +kernel
theorem dX8_isKept_35 : decode cX8_isKept 35 = .ok (.aload_n 0, 1) := by decide +kernel
theorem dX8_isKept_36 : decode cX8_isKept 36 = .ok (.getfield 133, 3) := by decide +kernel
theorem dX8_isKept_39 : decode cX8_isKept 39 = .ok (.iload_n 3, 1) := by decide +kernel
theorem dX8_isKept_40 : decode cX8_isKept 40 = .ok (.iconst 3, 1) := by decide +kernel
theorem dX8_isKept_41 : decode cX8_isKept 41 = .ok (.iadd, 1) := by decide +kernel
theorem dX8_isKept_42 : decode cX8_isKept 42 = .ok (.iaload, 1) := by decide +kernel
theorem dX8_isKept_43 : decode cX8_isKept 43 = .ok (.iastore, 1) := by decide +kernel
theorem dX8_isKept_44 : decode cX8_isKept 44 = .ok (.iinc 3 1, 3) := by decide +kernel
theorem dX8_isKept_47 : decode cX8_isKept 47 = .ok (.goto (-24), 3) := by decide +kernel
theorem dX8_isKept_50 : decode cX8_isKept 50 = .ok (.goto 14, 3) := by decide +kernel
theorem dX8_isKept_53 : decode cX8_isKept 53 = .ok (.aload_n 0, 1) := by decide +kernel
theorem dX8_isKept_54 : decode cX8_isKept 54 = .ok (.getfield 133, 3) := by decide +kernel
theorem dX8_isKept_57 : decode cX8_isKept 57 = .ok (.bipush 42, 2) := by decide +kernel
theorem dX8_isKept_59 : decode cX8_isKept 59 = .ok (.dup2, 1) := by decide +kernel
theorem dX8_isKept_60 : decode cX8_isKept 60 = .ok (.iaload, 1) := by decide +kernel
theorem dX8_isKept_61 : decode cX8_isKept 61 = .ok (.iconst 1, 1) := by decide +kernel
theorem dX8_isKept_62 : decode cX8_isKept 62 = .ok (.iadd, 1) := by decide +kernel
theorem dX8_isKept_63 : decode cX8_isKept 63 = .ok (.iastore, 1) := by decide +kernel
theorem dX8_isKept_64 : decode cX8_isKept 64 = .ok (.bipush 43, 2) := by decide +kernel
theorem dX8_isKept_66 : decode cX8_isKept 66 = .ok (.iconst 3, 1) := by decide +kernel
theorem dX8_isKept_67 : decode cX8_isKept 67 = .ok (.aload_n 0, 1) := by decide +kernel
theorem dX8_isKept_68 : decode cX8_isKept 68 = .ok (.getfield 133, 3) := by decide +kernel
theorem dX8_isKept_71 : decode cX8_isKept 71 = .ok (.bipush 42, 2) := by decide +kernel
theorem dX8_isKept_73 : decode cX8_isKept 73 = .ok (.iaload, 1) := by decide +kernel
theorem dX8_isKept_74 : decode cX8_isKept 74 = .ok (.imul, 1) := by decide +kernel
theorem dX8_isKept_75 : decode cX8_isKept 75 = .ok (.iadd, 1) := by decide +kernel
theorem dX8_isKept_76 : decode cX8_isKept 76 = .ok (.iconst 3, 1) := by decide +kernel
theorem dX8_isKept_77 : decode cX8_isKept 77 = .ok (.isub, 1) := by decide +kernel
theorem dX8_isKept_78 : decode cX8_isKept 78 = .ok (.istore_n 3, 1) := by decide +kernel
theorem dX8_isKept_79 : decode cX8_isKept 79 = .ok (.aload_n 0, 1) := by decide +kernel
theorem dX8_isKept_80 : decode cX8_isKept 80 = .ok (.getfield 133, 3) := by decide +kernel
theorem dX8_isKept_83 : decode cX8_isKept 83 = .ok (.iload_n 3, 1) := by decide +kernel
theorem dX8_isKept_84 : decode cX8_isKept 84 = .ok (.aload_n 0, 1) := by decide +kernel
theorem dX8_isKept_85 : decode cX8_isKept 85 = .ok (.getfield 133, 3) := by decide +kernel
theorem dX8_isKept_88 : decode cX8_isKept 88 = .ok (.iconst 0, 1) := by decide +kernel
theorem dX8_isKept_89 : decode cX8_isKept 89 = .ok (.iaload, 1) := by decide +kernel
theorem dX8_isKept_90 : decode cX8_isKept 90 = .ok (.iastore, 1) := by decide +kernel
theorem dX8_isKept_91 : decode cX8_isKept 91 = .ok (.aload_n 0, 1) := by decide +kernel
theorem dX8_isKept_92 : decode cX8_isKept 92 = .ok (.getfield 133, 3) := by decide +kernel
theorem dX8_isKept_95 : decode cX8_isKept 95 = .ok (.iload_n 3, 1) := by decide +kernel
theorem dX8_isKept_96 : decode cX8_isKept 96 = .ok (.iconst 1, 1) := by decide +kernel
theorem dX8_isKept_97 : decode cX8_isKept 97 = .ok (.iadd, 1) := by decide +kernel
theorem dX8_isKept_98 : decode cX8_isKept 98 = .ok (.iload_n 1, 1) := by decide +kernel
theorem dX8_isKept_99 : decode cX8_isKept 99 = .ok (.iastore, 1) := by decide +kernel
theorem dX8_isKept_100 : decode cX8_isKept 100 = .ok (.aload_n 0, 1) := by decide +kernel
theorem dX8_isKept_101 : decode cX8_isKept 101 = .ok (.getfield 133, 3) := by decide +kernel
theorem dX8_isKept_104 : decode cX8_isKept 104 = .ok (.iload_n 3, 1) := by decide +kernel
theorem dX8_isKept_105 : decode cX8_isKept 105 = .ok (.iconst 2, 1) := by decide +kernel
theorem dX8_isKept_106 : decode cX8_isKept 106 = .ok (.iadd, 1) := by decide +kernel
theorem dX8_isKept_107 : decode cX8_isKept 107 = .ok (.iload_n 2, 1) := by decide +kernel
theorem dX8_isKept_108 : decode cX8_isKept 108 = .ok (.iastore, 1) := by decide +kernel
theorem dX8_isKept_109 : decode cX8_isKept 109 = .ok (.return_, 1) := by decide +kernel
theorem dX8_dayBy_0 : decode cX8_dayBy 0 = .ok (.iconst 0, 1) := by decide +kernel
theorem dX8_dayBy_1 : decode cX8_dayBy 1 = .ok (.istore_n 2, 1) := by decide +kernel
theorem dX8_dayBy_2 : decode cX8_dayBy 2 = .ok (.iload_n 2, 1) := by decide +kernel
theorem dX8_dayBy_3 : decode cX8_dayBy 3 = .ok (.aload_n 0, 1) := by decide +kernel
theorem dX8_dayBy_4 : decode cX8_dayBy 4 = .ok (.invokevirtual 395, 3) := by decide +kernel
theorem dX8_dayBy_7 : decode cX8_dayBy 7 = .ok (.if_icmp .ge 64, 3) := by decide +kernel
theorem dX8_dayBy_10 : decode cX8_dayBy 10 = .ok (.iload_n 1, 1) := by decide +kernel
theorem dX8_dayBy_11 : decode cX8_dayBy 11 = .ok (.iload_n 2, 1) := by decide +kernel
theorem dX8_dayBy_12 : decode cX8_dayBy 12 = .ok (.ishr, 1) := by decide +kernel
theorem dX8_dayBy_13 : decode cX8_dayBy 13 = .ok (.iconst 1, 1) := by decide +kernel
theorem dX8_dayBy_14 : decode cX8_dayBy 14 = .ok (.iand, 1) := by decide +kernel
theorem dX8_dayBy_15 : decode cX8_dayBy 15 = .ok (.ifCond .ne 6, 3) := by decide +kernel
theorem dX8_dayBy_18 : decode cX8_dayBy 18 = .ok (.goto 47, 3) := by decide +kernel
theorem dX8_dayBy_21 : decode cX8_dayBy 21 = .ok (.aload_n 0, 1) := by decide +kernel
theorem dX8_dayBy_22 : decode cX8_dayBy 22 = .ok (.getfield 133, 3) := by decide +kernel
theorem dX8_dayBy_25 : decode cX8_dayBy 25 = .ok (.iconst 5, 1) := by decide +kernel
theorem dX8_dayBy_26 : decode cX8_dayBy 26 = .ok (.iconst 5, 1) := by decide +kernel
theorem dX8_dayBy_27 : decode cX8_dayBy 27 = .ok (.iload_n 2, 1) := by decide +kernel
theorem dX8_dayBy_28 : decode cX8_dayBy 28 = .ok (.imul, 1) := by decide +kernel
theorem dX8_dayBy_29 : decode cX8_dayBy 29 = .ok (.iadd, 1) := by decide +kernel
theorem dX8_dayBy_30 : decode cX8_dayBy 30 = .ok (.aload_n 0, 1) := by decide +kernel
theorem dX8_dayBy_31 : decode cX8_dayBy 31 = .ok (.getfield 133, 3) := by decide +kernel
theorem dX8_dayBy_34 : decode cX8_dayBy 34 = .ok (.iconst 0, 1) := by decide +kernel
theorem dX8_dayBy_35 : decode cX8_dayBy 35 = .ok (.iaload, 1) := by decide +kernel
theorem dX8_dayBy_36 : decode cX8_dayBy 36 = .ok (.iconst 1, 1) := by decide +kernel
theorem dX8_dayBy_37 : decode cX8_dayBy 37 = .ok (.iadd, 1) := by decide +kernel
theorem dX8_dayBy_38 : decode cX8_dayBy 38 = .ok (.iastore, 1) := by decide +kernel
theorem dX8_dayBy_39 : decode cX8_dayBy 39 = .ok (.aload_n 0, 1) := by decide +kernel
theorem dX8_dayBy_40 : decode cX8_dayBy 40 = .ok (.iload_n 2, 1) := by decide +kernel
theorem dX8_dayBy_41 : decode cX8_dayBy 41 = .ok (.invokevirtual 464, 3) := by decide +kernel
theorem dX8_dayBy_44 : decode cX8_dayBy 44 = .ok (.sipush 999, 3) := by decide +kernel
theorem dX8_dayBy_47 : decode cX8_dayBy 47 = .ok (.if_icmp .ge 18, 3) := by decide +kernel
theorem dX8_dayBy_50 : decode cX8_dayBy 50 = .ok (.aload_n 0, 1) := by decide +kernel
theorem dX8_dayBy_51 : decode cX8_dayBy 51 = .ok (.getfield 133, 3) := by decide +kernel
theorem dX8_dayBy_54 : decode cX8_dayBy 54 = .ok (.bipush 6, 2) := by decide +kernel
theorem dX8_dayBy_56 : decode cX8_dayBy 56 = .ok (.iconst 5, 1) := by decide +kernel
theorem dX8_dayBy_57 : decode cX8_dayBy 57 = .ok (.iload_n 2, 1) := by decide +kernel
theorem dX8_dayBy_58 : decode cX8_dayBy 58 = .ok (.imul, 1) := by decide +kernel
theorem dX8_dayBy_59 : decode cX8_dayBy 59 = .ok (.iadd, 1) := by decide +kernel
theorem dX8_dayBy_60 : decode cX8_dayBy 60 = .ok (.dup2, 1) := by decide +kernel
theorem dX8_dayBy_61 : decode cX8_dayBy 61 = .ok (.iaload, 1) := by decide +kernel
theorem dX8_dayBy_62 : decode cX8_dayBy 62 = .ok (.iconst 1, 1) := by decide +kernel
theorem dX8_dayBy_63 : decode cX8_dayBy 63 = .ok (.iadd, 1) := by decide +kernel
theorem dX8_dayBy_64 : decode cX8_dayBy 64 = .ok (.iastore, 1) := by decide +kernel
theorem dX8_dayBy_65 : decode cX8_dayBy 65 = .ok (.iinc 2 1, 3) := by decide +kernel
theorem dX8_dayBy_68 : decode cX8_dayBy 68 = .ok (.goto (-66), 3) := by decide +kernel
theorem dX8_dayBy_71 : decode cX8_dayBy 71 = .ok (.aload_n 0, 1) := by decide +kernel
theorem dX8_dayBy_72 : decode cX8_dayBy 72 = .ok (.getfield 105, 3) := by decide +kernel
theorem dX8_dayBy_75 : decode cX8_dayBy 75 = .ok (.iconst 3, 1) := by decide +kernel
theorem dX8_dayBy_76 : decode cX8_dayBy 76 = .ok (.iaload, 1) := by decide +kernel
theorem dX8_dayBy_77 : decode cX8_dayBy 77 = .ok (.aload_n 0, 1) := by decide +kernel
theorem dX8_dayBy_78 : decode cX8_dayBy 78 = .ok (.iload_n 1, 1) := by decide +kernel
theorem dX8_dayBy_79 : decode cX8_dayBy 79 = .ok (.invokevirtual 455, 3) := by decide +kernel
theorem dX8_dayBy_82 : decode cX8_dayBy 82 = .ok (.isub, 1) := by decide +kernel
theorem dX8_dayBy_83 : decode cX8_dayBy 83 = .ok (.istore_n 2, 1) := by decide +kernel
theorem dX8_dayBy_84 : decode cX8_dayBy 84 = .ok (.iload_n 2, 1) := by decide +kernel
theorem dX8_dayBy_85 : decode cX8_dayBy 85 = .ok (.aload_n 0, 1) := by decide +kernel
theorem dX8_dayBy_86 : decode cX8_dayBy 86 = .ok (.getfield 133, 3) := by decide +kernel
theorem dX8_dayBy_89 : decode cX8_dayBy 89 = .ok (.iconst 1, 1) := by decide +kernel
theorem dX8_dayBy_90 : decode cX8_dayBy 90 = .ok (.iaload, 1) := by decide +kernel
theorem dX8_dayBy_91 : decode cX8_dayBy 91 = .ok (.if_icmp .ge 7, 3) := by decide +kernel
theorem dX8_dayBy_94 : decode cX8_dayBy 94 = .ok (.iload_n 2, 1) := by decide +kernel
theorem dX8_dayBy_95 : decode cX8_dayBy 95 = .ok (.goto 9, 3) := by decide +kernel
theorem dX8_dayBy_98 : decode cX8_dayBy 98 = .ok (.aload_n 0, 1) := by decide +kernel
theorem dX8_dayBy_99 : decode cX8_dayBy 99 = .ok (.getfield 133, 3) := by decide +kernel
theorem dX8_dayBy_102 : decode cX8_dayBy 102 = .ok (.iconst 1, 1) := by decide +kernel
theorem dX8_dayBy_103 : decode cX8_dayBy 103 = .ok (.iaload, 1) := by decide +kernel
theorem dX8_dayBy_104 : decode cX8_dayBy 104 = .ok (.istore_n 3, 1) := by decide +kernel
theorem dX8_dayBy_105 : decode cX8_dayBy 105 = .ok (.aload_n 0, 1) := by decide +kernel
theorem dX8_dayBy_106 : decode cX8_dayBy 106 = .ok (.getfield 133, 3) := by decide +kernel
theorem dX8_dayBy_109 : decode cX8_dayBy 109 = .ok (.iconst 1, 1) := by decide +kernel
theorem dX8_dayBy_110 : decode cX8_dayBy 110 = .ok (.dup2, 1) := by decide +kernel
theorem dX8_dayBy_111 : decode cX8_dayBy 111 = .ok (.iaload, 1) := by decide +kernel
theorem dX8_dayBy_112 : decode cX8_dayBy 112 = .ok (.iload_n 3, 1) := by decide +kernel
theorem dX8_dayBy_113 : decode cX8_dayBy 113 = .ok (.isub, 1) := by decide +kernel
theorem dX8_dayBy_114 : decode cX8_dayBy 114 = .ok (.iastore, 1) := by decide +kernel
theorem dX8_dayBy_115 : decode cX8_dayBy 115 = .ok (.iconst 0, 1) := by decide +kernel
theorem dX8_dayBy_116 : decode cX8_dayBy 116 = .ok (.istore 4, 2) := by decide +kernel
theorem dX8_dayBy_118 : decode cX8_dayBy 118 = .ok (.iload 4, 2) := by decide +kernel
theorem dX8_dayBy_120 : decode cX8_dayBy 120 = .ok (.aload_n 0, 1) := by decide +kernel
theorem dX8_dayBy_121 : decode cX8_dayBy 121 = .ok (.invokevirtual 395, 3) := by decide +kernel
theorem dX8_dayBy_124 : decode cX8_dayBy 124 = .ok (.if_icmp .ge 35, 3) := by decide +kernel
theorem dX8_dayBy_127 : decode cX8_dayBy 127 = .ok (.aload_n 0, 1) := by decide +kernel
theorem dX8_dayBy_128 : decode cX8_dayBy 128 = .ok (.iload 4, 2) := by decide +kernel
theorem dX8_dayBy_130 : decode cX8_dayBy 130 = .ok (.invokevirtual 405, 3) := by decide +kernel
theorem dX8_dayBy_133 : decode cX8_dayBy 133 = .ok (.ifCond .eq 20, 3) := by decide +kernel
theorem dX8_dayBy_136 : decode cX8_dayBy 136 = .ok (.aload_n 0, 1) := by decide +kernel
theorem dX8_dayBy_137 : decode cX8_dayBy 137 = .ok (.getfield 133, 3) := by decide +kernel
theorem dX8_dayBy_140 : decode cX8_dayBy 140 = .ok (.iconst 4, 1) := by decide +kernel
theorem dX8_dayBy_141 : decode cX8_dayBy 141 = .ok (.iconst 5, 1) := by decide +kernel
theorem dX8_dayBy_142 : decode cX8_dayBy 142 = .ok (.iload 4, 2) := by decide +kernel
theorem dX8_dayBy_144 : decode cX8_dayBy 144 = .ok (.imul, 1) := by decide +kernel
theorem dX8_dayBy_145 : decode cX8_dayBy 145 = .ok (.iadd, 1) := by decide +kernel
theorem dX8_dayBy_146 : decode cX8_dayBy 146 = .ok (.aload_n 0, 1) := by decide +kernel
theorem dX8_dayBy_147 : decode cX8_dayBy 147 = .ok (.iload 4, 2) := by decide +kernel
theorem dX8_dayBy_149 : decode cX8_dayBy 149 = .ok (.invokevirtual 467, 3) := by decide +kernel
theorem dX8_dayBy_152 : decode cX8_dayBy 152 = .ok (.iastore, 1) := by decide +kernel
theorem dX8_dayBy_153 : decode cX8_dayBy 153 = .ok (.iinc 4 1, 3) := by decide +kernel
theorem dX8_dayBy_156 : decode cX8_dayBy 156 = .ok (.goto (-38), 3) := by decide +kernel
theorem dX8_dayBy_159 : decode cX8_dayBy 159 = .ok (.aload_n 0, 1) := by decide +kernel
theorem dX8_dayBy_160 : decode cX8_dayBy 160 = .ok (.dup, 1) := by decide +kernel
theorem dX8_dayBy_161 : decode cX8_dayBy 161 = .ok (.getfield 470, 3) := by decide +kernel
theorem dX8_dayBy_164 : decode cX8_dayBy 164 = .ok (.iload_n 1, 1) := by decide +kernel
theorem dX8_dayBy_165 : decode cX8_dayBy 165 = .ok (.invokestatic 473, 3) := by decide +kernel
theorem dX8_dayBy_168 : decode cX8_dayBy 168 = .ok (.iadd, 1) := by decide +kernel
theorem dX8_dayBy_169 : decode cX8_dayBy 169 = .ok (.putfield 470, 3) := by decide +kernel
theorem dX8_dayBy_172 : decode cX8_dayBy 172 = .ok (.aload_n 0, 1) := by decide +kernel
theorem dX8_dayBy_173 : decode cX8_dayBy 173 = .ok (.iload_n 1, 1) := by decide +kernel
theorem dX8_dayBy_174 : decode cX8_dayBy 174 = .ok (.iload_n 3, 1) := by decide +kernel
theorem dX8_dayBy_175 : decode cX8_dayBy 175 = .ok (.invokevirtual 476, 3) := by decide +kernel
theorem dX8_dayBy_178 : decode cX8_dayBy 178 = .ok (.aload_n 0, 1) := by decide +kernel
theorem dX8_dayBy_179 : decode cX8_dayBy 179 = .ok (.getfield 133, 3) := by decide +kernel
theorem dX8_dayBy_182 : decode cX8_dayBy 182 = .ok (.iconst 0, 1) := by decide +kernel
theorem dX8_dayBy_183 : decode cX8_dayBy 183 = .ok (.dup2, 1) := by decide +kernel
theorem dX8_dayBy_184 : decode cX8_dayBy 184 = .ok (.iaload, 1) := by decide +kernel
theorem dX8_dayBy_185 : decode cX8_dayBy 185 = .ok (.iconst 1, 1) := by decide +kernel
theorem dX8_dayBy_186 : decode cX8_dayBy 186 = .ok (.iadd, 1) := by decide +kernel
theorem dX8_dayBy_187 : decode cX8_dayBy 187 = .ok (.iastore, 1) := by decide +kernel
theorem dX8_dayBy_188 : decode cX8_dayBy 188 = .ok (.return_, 1) := by decide +kernel
theorem dX8_dayGoes_0 : decode cX8_dayGoes 0 = .ok (.aload_n 0, 1) := by decide +kernel
theorem dX8_dayGoes_1 : decode cX8_dayGoes 1 = .ok (.invokevirtual 479, 3) := by decide +kernel
theorem dX8_dayGoes_4 : decode cX8_dayGoes 4 = .ok (.aload_n 0, 1) := by decide +kernel
theorem dX8_dayGoes_5 : decode cX8_dayGoes 5 = .ok (.aload_n 0, 1) := by decide +kernel
theorem dX8_dayGoes_6 : decode cX8_dayGoes 6 = .ok (.getfield 449, 3) := by decide +kernel
theorem dX8_dayGoes_9 : decode cX8_dayGoes 9 = .ok (.invokevirtual 482, 3) := by decide +kernel
theorem dX8_dayGoes_12 : decode cX8_dayGoes 12 = .ok (.return_, 1) := by decide +kernel
theorem dX8_daysGo_0 : decode cX8_daysGo 0 = .ok (.iconst 0, 1) := by decide +kernel
theorem dX8_daysGo_1 : decode cX8_daysGo 1 = .ok (.istore_n 2, 1) := by decide +kernel
theorem dX8_daysGo_2 : decode cX8_daysGo 2 = .ok (.iload_n 2, 1) := by decide +kernel
theorem dX8_daysGo_3 : decode cX8_daysGo 3 = .ok (.iload_n 1, 1) := by decide +kernel
theorem dX8_daysGo_4 : decode cX8_daysGo 4 = .ok (.if_icmp .ge 13, 3) := by decide +kernel
theorem dX8_daysGo_7 : decode cX8_daysGo 7 = .ok (.aload_n 0, 1) := by decide +kernel
theorem dX8_daysGo_8 : decode cX8_daysGo 8 = .ok (.invokevirtual 485, 3) := by decide +kernel
theorem dX8_daysGo_11 : decode cX8_daysGo 11 = .ok (.iinc 2 1, 3) := by decide +kernel
theorem dX8_daysGo_14 : decode cX8_daysGo 14 = .ok (.goto (-12), 3) := by decide +kernel
theorem dX8_daysGo_17 : decode cX8_daysGo 17 = .ok (.return_, 1) := by decide +kernel
theorem dX8_putsAside_0 : decode cX8_putsAside 0 = .ok (.aload_n 0, 1) := by decide +kernel
theorem dX8_putsAside_1 : decode cX8_putsAside 1 = .ok (.iconst 1, 1) := by decide +kernel
theorem dX8_putsAside_2 : decode cX8_putsAside 2 = .ok (.putfield 461, 3) := by decide +kernel
theorem dX8_putsAside_5 : decode cX8_putsAside 5 = .ok (.iconst 0, 1) := by decide +kernel
theorem dX8_putsAside_6 : decode cX8_putsAside 6 = .ok (.istore_n 1, 1) := by decide +kernel
theorem dX8_putsAside_7 : decode cX8_putsAside 7 = .ok (.iload_n 1, 1) := by decide +kernel
theorem dX8_putsAside_8 : decode cX8_putsAside 8 = .ok (.bipush 42, 2) := by decide +kernel
theorem dX8_putsAside_10 : decode cX8_putsAside 10 = .ok (.if_icmp .ge 21, 3) := by decide +kernel
theorem dX8_putsAside_13 : decode cX8_putsAside 13 = .ok (.aload_n 0, 1) := by decide +kernel
theorem dX8_putsAside_14 : decode cX8_putsAside 14 = .ok (.getfield 136, 3) := by decide +kernel
theorem dX8_putsAside_17 : decode cX8_putsAside 17 = .ok (.iload_n 1, 1) := by decide +kernel
theorem dX8_putsAside_18 : decode cX8_putsAside 18 = .ok (.aload_n 0, 1) := by decide +kernel
theorem dX8_putsAside_19 : decode cX8_putsAside 19 = .ok (.getfield 133, 3) := by decide +kernel
theorem dX8_putsAside_22 : decode cX8_putsAside 22 = .ok (.iload_n 1, 1) := by decide +kernel
theorem dX8_putsAside_23 : decode cX8_putsAside 23 = .ok (.iaload, 1) := by decide +kernel
theorem dX8_putsAside_24 : decode cX8_putsAside 24 = .ok (.iastore, 1) := by decide +kernel
theorem dX8_putsAside_25 : decode cX8_putsAside 25 = .ok (.iinc 1 1, 3) := by decide +kernel
theorem dX8_putsAside_28 : decode cX8_putsAside 28 = .ok (.goto (-21), 3) := by decide +kernel
theorem dX8_putsAside_31 : decode cX8_putsAside 31 = .ok (.return_, 1) := by decide +kernel
theorem dX8_triesAnew_0 : decode cX8_triesAnew 0 = .ok (.iconst 0, 1) := by decide +kernel
theorem dX8_triesAnew_1 : decode cX8_triesAnew 1 = .ok (.istore_n 1, 1) := by decide +kernel
theorem dX8_triesAnew_2 : decode cX8_triesAnew 2 = .ok (.iload_n 1, 1) := by decide +kernel
theorem dX8_triesAnew_3 : decode cX8_triesAnew 3 = .ok (.bipush 42, 2) := by decide +kernel
theorem dX8_triesAnew_5 : decode cX8_triesAnew 5 = .ok (.if_icmp .ge 21, 3) := by decide +kernel
theorem dX8_triesAnew_8 : decode cX8_triesAnew 8 = .ok (.aload_n 0, 1) := by decide +kernel
theorem dX8_triesAnew_9 : decode cX8_triesAnew 9 = .ok (.getfield 133, 3) := by decide +kernel
theorem dX8_triesAnew_12 : decode cX8_triesAnew 12 = .ok (.iload_n 1, 1) := by decide +kernel
theorem dX8_triesAnew_13 : decode cX8_triesAnew 13 = .ok (.aload_n 0, 1) := by decide +kernel
theorem dX8_triesAnew_14 : decode cX8_triesAnew 14 = .ok (.getfield 136, 3) := by decide +kernel
theorem dX8_triesAnew_17 : decode cX8_triesAnew 17 = .ok (.iload_n 1, 1) := by decide +kernel
theorem dX8_triesAnew_18 : decode cX8_triesAnew 18 = .ok (.iaload, 1) := by decide +kernel
theorem dX8_triesAnew_19 : decode cX8_triesAnew 19 = .ok (.iastore, 1) := by decide +kernel
theorem dX8_triesAnew_20 : decode cX8_triesAnew 20 = .ok (.iinc 1 1, 3) := by decide +kernel
theorem dX8_triesAnew_23 : decode cX8_triesAnew 23 = .ok (.goto (-21), 3) := by decide +kernel
theorem dX8_triesAnew_26 : decode cX8_triesAnew 26 = .ok (.return_, 1) := by decide +kernel
theorem dX8_takesBack_0 : decode cX8_takesBack 0 = .ok (.aload_n 0, 1) := by decide +kernel
theorem dX8_takesBack_1 : decode cX8_takesBack 1 = .ok (.invokevirtual 488, 3) := by decide +kernel
theorem dX8_takesBack_4 : decode cX8_takesBack 4 = .ok (.aload_n 0, 1) := by decide +kernel
theorem dX8_takesBack_5 : decode cX8_takesBack 5 = .ok (.iconst 0, 1) := by decide +kernel
theorem dX8_takesBack_6 : decode cX8_takesBack 6 = .ok (.putfield 461, 3) := by decide +kernel
theorem dX8_takesBack_9 : decode cX8_takesBack 9 = .ok (.return_, 1) := by decide +kernel
theorem dX8_isAhead_0 : decode cX8_isAhead 0 = .ok (.aload_n 0, 1) := by decide +kernel
theorem dX8_isAhead_1 : decode cX8_isAhead 1 = .ok (.getfield 385, 3) := by decide +kernel
theorem dX8_isAhead_4 : decode cX8_isAhead 4 = .ok (.ifCond .eq 33, 3) := by decide +kernel
theorem dX8_isAhead_7 : decode cX8_isAhead 7 = .ok (.iload_n 1, 1) := by decide +kernel
theorem dX8_isAhead_8 : decode cX8_isAhead 8 = .ok (.i2l, 1) := by decide +kernel
theorem dX8_isAhead_9 : decode cX8_isAhead 9 = .ok (.iload_n 2, 1) := by decide +kernel
theorem dX8_isAhead_10 : decode cX8_isAhead 10 = .ok (.i2l, 1) := by decide +kernel
theorem dX8_isAhead_11 : decode cX8_isAhead 11 = .ok (.iload_n 3, 1) := by decide +kernel
theorem dX8_isAhead_12 : decode cX8_isAhead 12 = .ok (.i2l, 1) := by decide +kernel
theorem dX8_isAhead_13 : decode cX8_isAhead 13 = .ok (.invokestatic 289, 3) := by decide +kernel
theorem dX8_isAhead_16 : decode cX8_isAhead 16 = .ok (.ifCond .eq 21, 3) := by decide +kernel
theorem dX8_isAhead_19 : decode cX8_isAhead 19 = .ok (.aload_n 0, 1) := by decide +kernel
theorem dX8_isAhead_20 : decode cX8_isAhead 20 = .ok (.getfield 133, 3) := by decide +kernel
theorem dX8_isAhead_23 : decode cX8_isAhead 23 = .ok (.iconst 0, 1) := by decide +kernel
theorem dX8_isAhead_24 : decode cX8_isAhead 24 = .ok (.iaload, 1) := by decide +kernel
theorem dX8_isAhead_25 : decode cX8_isAhead 25 = .ok (.iload_n 1, 1) := by decide +kernel
theorem dX8_isAhead_26 : decode cX8_isAhead 26 = .ok (.iadd, 1) := by decide +kernel
theorem dX8_isAhead_27 : decode cX8_isAhead 27 = .ok (.sipush 999, 3) := by decide +kernel
theorem dX8_isAhead_30 : decode cX8_isAhead 30 = .ok (.if_icmp .gt 7, 3) := by decide +kernel
theorem dX8_isAhead_33 : decode cX8_isAhead 33 = .ok (.iconst 1, 1) := by decide +kernel
theorem dX8_isAhead_34 : decode cX8_isAhead 34 = .ok (.goto 4, 3) := by decide +kernel
theorem dX8_isAhead_37 : decode cX8_isAhead 37 = .ok (.iconst 0, 1) := by decide +kernel
theorem dX8_isAhead_38 : decode cX8_isAhead 38 = .ok (.ireturn, 1) := by decide +kernel
theorem dX8_deadMany_0 : decode cX8_deadMany 0 = .ok (.iconst 0, 1) := by decide +kernel
theorem dX8_deadMany_1 : decode cX8_deadMany 1 = .ok (.istore_n 1, 1) := by decide +kernel
theorem dX8_deadMany_2 : decode cX8_deadMany 2 = .ok (.iconst 0, 1) := by decide +kernel
theorem dX8_deadMany_3 : decode cX8_deadMany 3 = .ok (.istore_n 2, 1) := by decide +kernel
theorem dX8_deadMany_4 : decode cX8_deadMany 4 = .ok (.iload_n 2, 1) := by decide +kernel
theorem dX8_deadMany_5 : decode cX8_deadMany 5 = .ok (.aload_n 0, 1) := by decide +kernel
theorem dX8_deadMany_6 : decode cX8_deadMany 6 = .ok (.invokevirtual 395, 3) := by decide +kernel
theorem dX8_deadMany_9 : decode cX8_deadMany 9 = .ok (.if_icmp .ge 20, 3) := by decide +kernel
theorem dX8_deadMany_12 : decode cX8_deadMany 12 = .ok (.aload_n 0, 1) := by decide +kernel
theorem dX8_deadMany_13 : decode cX8_deadMany 13 = .ok (.iload_n 2, 1) := by decide +kernel
theorem dX8_deadMany_14 : decode cX8_deadMany 14 = .ok (.invokevirtual 405, 3) := by decide +kernel
theorem dX8_deadMany_17 : decode cX8_deadMany 17 = .ok (.ifCond .eq 6, 3) := by decide +kernel
theorem dX8_deadMany_20 : decode cX8_deadMany 20 = .ok (.iinc 1 1, 3) := by decide +kernel
theorem dX8_deadMany_23 : decode cX8_deadMany 23 = .ok (.iinc 2 1, 3) := by decide +kernel
theorem dX8_deadMany_26 : decode cX8_deadMany 26 = .ok (.goto (-22), 3) := by decide +kernel
theorem dX8_deadMany_29 : decode cX8_deadMany 29 = .ok (.iload_n 1, 1) := by decide +kernel
theorem dX8_deadMany_30 : decode cX8_deadMany 30 = .ok (.ireturn, 1) := by decide +kernel
theorem dX8_forgottenMany_0 : decode cX8_forgottenMany 0 = .ok (.iconst 0, 1) := by decide +kernel
theorem dX8_forgottenMany_1 : decode cX8_forgottenMany 1 = .ok (.istore_n 1, 1) := by decide +kernel
theorem dX8_forgottenMany_2 : decode cX8_forgottenMany 2 = .ok (.iconst 0, 1) := by decide +kernel
theorem dX8_forgottenMany_3 : decode cX8_forgottenMany 3 = .ok (.istore_n 2, 1) := by decide +kernel
theorem dX8_forgottenMany_4 : decode cX8_forgottenMany 4 = .ok (.iload_n 2, 1) := by decide +kernel
theorem dX8_forgottenMany_5 : decode cX8_forgottenMany 5 = .ok (.aload_n 0, 1) := by decide +kernel
theorem dX8_forgottenMany_6 : decode cX8_forgottenMany 6 = .ok (.invokevirtual 395, 3) := by decide +kernel
theorem dX8_forgottenMany_9 : decode cX8_forgottenMany 9 = .ok (.if_icmp .ge 20, 3) := by decide +kernel
theorem dX8_forgottenMany_12 : decode cX8_forgottenMany 12 = .ok (.aload_n 0, 1) := by decide +kernel
theorem dX8_forgottenMany_13 : decode cX8_forgottenMany 13 = .ok (.iload_n 2, 1) := by decide +kernel
theorem dX8_forgottenMany_14 : decode cX8_forgottenMany 14 = .ok (.invokevirtual 425, 3) := by decide +kernel
theorem dX8_forgottenMany_17 : decode cX8_forgottenMany 17 = .ok (.ifCond .ne 6, 3) := by decide +kernel
theorem dX8_forgottenMany_20 : decode cX8_forgottenMany 20 = .ok (.iinc 1 1, 3) := by decide +kernel
theorem dX8_forgottenMany_23 : decode cX8_forgottenMany 23 = .ok (.iinc 2 1, 3) := by decide +kernel
theorem dX8_forgottenMany_26 : decode cX8_forgottenMany 26 = .ok (.goto (-22), 3) := by decide +kernel
theorem dX8_forgottenMany_29 : decode cX8_forgottenMany 29 = .ok (.iload_n 1, 1) := by decide +kernel
theorem dX8_forgottenMany_30 : decode cX8_forgottenMany 30 = .ok (.ireturn, 1) := by decide +kernel
theorem dX8_canMany_0 : decode cX8_canMany 0 = .ok (.aload_n 0, 1) := by decide +kernel
theorem dX8_canMany_1 : decode cX8_canMany 1 = .ok (.invokevirtual 446, 3) := by decide +kernel
theorem dX8_canMany_4 : decode cX8_canMany 4 = .ok (.aload_n 0, 1) := by decide +kernel
theorem dX8_canMany_5 : decode cX8_canMany 5 = .ok (.getfield 433, 3) := by decide +kernel
theorem dX8_canMany_8 : decode cX8_canMany 8 = .ok (.invokestatic 473, 3) := by decide +kernel
theorem dX8_canMany_11 : decode cX8_canMany 11 = .ok (.ireturn, 1) := by decide +kernel
theorem dX8_has_0 : decode cX8_has 0 = .ok (.iload_n 1, 1) := by decide +kernel
theorem dX8_has_1 : decode cX8_has 1 = .ok (.tableswitch 123 0 11 #[63, 70, 70, 70, 81, 81, 90, 95, 100, 105, 113, 118], 63) := by decide +kernel
theorem dX8_has_64 : decode cX8_has 64 = .ok (.aload_n 0, 1) := by decide +kernel
theorem dX8_has_65 : decode cX8_has 65 = .ok (.getfield 105, 3) := by decide +kernel
theorem dX8_has_68 : decode cX8_has 68 = .ok (.iconst 3, 1) := by decide +kernel
theorem dX8_has_69 : decode cX8_has 69 = .ok (.iaload, 1) := by decide +kernel
theorem dX8_has_70 : decode cX8_has 70 = .ok (.ireturn, 1) := by decide +kernel
theorem dX8_has_71 : decode cX8_has 71 = .ok (.aload_n 0, 1) := by decide +kernel
theorem dX8_has_72 : decode cX8_has 72 = .ok (.getfield 108, 3) := by decide +kernel
theorem dX8_has_75 : decode cX8_has 75 = .ok (.iconst 3, 1) := by decide +kernel
theorem dX8_has_76 : decode cX8_has 76 = .ok (.iload_n 1, 1) := by decide +kernel
theorem dX8_has_77 : decode cX8_has 77 = .ok (.iadd, 1) := by decide +kernel
theorem dX8_has_78 : decode cX8_has 78 = .ok (.iconst 1, 1) := by decide +kernel
theorem dX8_has_79 : decode cX8_has 79 = .ok (.isub, 1) := by decide +kernel
theorem dX8_has_80 : decode cX8_has 80 = .ok (.iaload, 1) := by decide +kernel
theorem dX8_has_81 : decode cX8_has 81 = .ok (.ireturn, 1) := by decide +kernel
theorem dX8_has_82 : decode cX8_has 82 = .ok (.aload_n 0, 1) := by decide +kernel
theorem dX8_has_83 : decode cX8_has 83 = .ok (.getfield 133, 3) := by decide +kernel
theorem dX8_has_86 : decode cX8_has 86 = .ok (.iload_n 1, 1) := by decide +kernel
theorem dX8_has_87 : decode cX8_has 87 = .ok (.iconst 4, 1) := by decide +kernel
theorem dX8_has_88 : decode cX8_has 88 = .ok (.isub, 1) := by decide +kernel
theorem dX8_has_89 : decode cX8_has 89 = .ok (.iaload, 1) := by decide +kernel
theorem dX8_has_90 : decode cX8_has 90 = .ok (.ireturn, 1) := by decide +kernel
theorem dX8_has_91 : decode cX8_has 91 = .ok (.aload_n 0, 1) := by decide +kernel
theorem dX8_has_92 : decode cX8_has 92 = .ok (.invokevirtual 491, 3) := by decide +kernel
theorem dX8_has_95 : decode cX8_has 95 = .ok (.ireturn, 1) := by decide +kernel
theorem dX8_has_96 : decode cX8_has 96 = .ok (.aload_n 0, 1) := by decide +kernel
theorem dX8_has_97 : decode cX8_has 97 = .ok (.invokevirtual 494, 3) := by decide +kernel
theorem dX8_has_100 : decode cX8_has 100 = .ok (.ireturn, 1) := by decide +kernel
theorem dX8_has_101 : decode cX8_has 101 = .ok (.aload_n 0, 1) := by decide +kernel
theorem dX8_has_102 : decode cX8_has 102 = .ok (.invokevirtual 497, 3) := by decide +kernel
theorem dX8_has_105 : decode cX8_has 105 = .ok (.ireturn, 1) := by decide +kernel
theorem dX8_has_106 : decode cX8_has 106 = .ok (.aload_n 0, 1) := by decide +kernel
theorem dX8_has_107 : decode cX8_has 107 = .ok (.getfield 133, 3) := by decide +kernel
theorem dX8_has_110 : decode cX8_has 110 = .ok (.bipush 42, 2) := by decide +kernel
theorem dX8_has_112 : decode cX8_has 112 = .ok (.iaload, 1) := by decide +kernel
theorem dX8_has_113 : decode cX8_has 113 = .ok (.ireturn, 1) := by decide +kernel
theorem dX8_has_114 : decode cX8_has 114 = .ok (.aload_n 0, 1) := by decide +kernel
theorem dX8_has_115 : decode cX8_has 115 = .ok (.getfield 392, 3) := by decide +kernel
theorem dX8_has_118 : decode cX8_has 118 = .ok (.ireturn, 1) := by decide +kernel
theorem dX8_has_119 : decode cX8_has 119 = .ok (.aload_n 0, 1) := by decide +kernel
theorem dX8_has_120 : decode cX8_has 120 = .ok (.getfield 389, 3) := by decide +kernel
theorem dX8_has_123 : decode cX8_has 123 = .ok (.ireturn, 1) := by decide +kernel
theorem dX8_has_124 : decode cX8_has 124 = .ok (.iconst (-1), 1) := by decide +kernel
theorem dX8_has_125 : decode cX8_has 125 = .ok (.ireturn, 1) := by decide +kernel
theorem dX8_letter_0 : decode cX8_letter 0 = .ok (.iload_n 1, 1) := by decide +kernel
theorem dX8_letter_1 : decode cX8_letter 1 = .ok (.i2l, 1) := by decide +kernel
theorem dX8_letter_2 : decode cX8_letter 2 = .ok (.lconst 0, 1) := by decide +kernel
theorem dX8_letter_3 : decode cX8_letter 3 = .ok (.ldc2_w 500, 3) := by decide +kernel
theorem dX8_letter_6 : decode cX8_letter 6 = .ok (.invokestatic 289, 3) := by decide +kernel
theorem dX8_letter_9 : decode cX8_letter 9 = .ok (.ifCond .eq 35, 3) := by decide +kernel
theorem dX8_letter_12 : decode cX8_letter 12 = .ok (.iload_n 2, 1) := by decide +kernel
theorem dX8_letter_13 : decode cX8_letter 13 = .ok (.i2l, 1) := by decide +kernel
theorem dX8_letter_14 : decode cX8_letter 14 = .ok (.lconst 0, 1) := by decide +kernel
theorem dX8_letter_15 : decode cX8_letter 15 = .ok (.aload_n 0, 1) := by decide +kernel
theorem dX8_letter_16 : decode cX8_letter 16 = .ok (.getfield 108, 3) := by decide +kernel
theorem dX8_letter_19 : decode cX8_letter 19 = .ok (.iconst 3, 1) := by decide +kernel
theorem dX8_letter_20 : decode cX8_letter 20 = .ok (.iload_n 1, 1) := by decide +kernel
theorem dX8_letter_21 : decode cX8_letter 21 = .ok (.iadd, 1) := by decide +kernel
theorem dX8_letter_22 : decode cX8_letter 22 = .ok (.iaload, 1) := by decide +kernel
theorem dX8_letter_23 : decode cX8_letter 23 = .ok (.iconst 1, 1) := by decide +kernel
theorem dX8_letter_24 : decode cX8_letter 24 = .ok (.isub, 1) := by decide +kernel
theorem dX8_letter_25 : decode cX8_letter 25 = .ok (.i2l, 1) := by decide +kernel
theorem dX8_letter_26 : decode cX8_letter 26 = .ok (.invokestatic 289, 3) := by decide +kernel
theorem dX8_letter_29 : decode cX8_letter 29 = .ok (.ifCond .eq 15, 3) := by decide +kernel
theorem dX8_letter_32 : decode cX8_letter 32 = .ok (.iload_n 3, 1) := by decide +kernel
theorem dX8_letter_33 : decode cX8_letter 33 = .ok (.i2l, 1) := by decide +kernel
theorem dX8_letter_34 : decode cX8_letter 34 = .ok (.lconst 0, 1) := by decide +kernel
theorem dX8_letter_35 : decode cX8_letter 35 = .ok (.ldc2_w 502, 3) := by decide +kernel
theorem dX8_letter_38 : decode cX8_letter 38 = .ok (.invokestatic 289, 3) := by decide +kernel
theorem dX8_letter_41 : decode cX8_letter 41 = .ok (.ifCond .ne 5, 3) := by decide +kernel
theorem dX8_letter_44 : decode cX8_letter 44 = .ok (.iconst (-1), 1) := by decide +kernel
theorem dX8_letter_45 : decode cX8_letter 45 = .ok (.ireturn, 1) := by decide +kernel
theorem dX8_letter_46 : decode cX8_letter 46 = .ok (.aload_n 0, 1) := by decide +kernel
theorem dX8_letter_47 : decode cX8_letter 47 = .ok (.getfield 111, 3) := by decide +kernel
theorem dX8_letter_50 : decode cX8_letter 50 = .ok (.bipush 24, 2) := by decide +kernel
theorem dX8_letter_52 : decode cX8_letter 52 = .ok (.bipush 8, 2) := by decide +kernel
theorem dX8_letter_54 : decode cX8_letter 54 = .ok (.iload_n 1, 1) := by decide +kernel
theorem dX8_letter_55 : decode cX8_letter 55 = .ok (.imul, 1) := by decide +kernel
theorem dX8_letter_56 : decode cX8_letter 56 = .ok (.iadd, 1) := by decide +kernel
theorem dX8_letter_57 : decode cX8_letter 57 = .ok (.iload_n 2, 1) := by decide +kernel
theorem dX8_letter_58 : decode cX8_letter 58 = .ok (.iadd, 1) := by decide +kernel
theorem dX8_letter_59 : decode cX8_letter 59 = .ok (.laload, 1) := by decide +kernel
theorem dX8_letter_60 : decode cX8_letter 60 = .ok (.lstore 4, 2) := by decide +kernel
theorem dX8_letter_62 : decode cX8_letter 62 = .ok (.iconst 0, 1) := by decide +kernel
theorem dX8_letter_63 : decode cX8_letter 63 = .ok (.istore 6, 2) := by decide +kernel
theorem dX8_letter_65 : decode cX8_letter 65 = .ok (.lload 4, 2) := by decide +kernel
theorem dX8_letter_67 : decode cX8_letter 67 = .ok (.lstore 7, 2) := by decide +kernel
theorem dX8_letter_69 : decode cX8_letter 69 = .ok (.lload 7, 2) := by decide +kernel
theorem dX8_letter_71 : decode cX8_letter 71 = .ok (.lconst 0, 1) := by decide +kernel
theorem dX8_letter_72 : decode cX8_letter 72 = .ok (.lcmp, 1) := by decide +kernel
theorem dX8_letter_73 : decode cX8_letter 73 = .ok (.ifCond .le 17, 3) := by decide +kernel
theorem dX8_letter_76 : decode cX8_letter 76 = .ok (.iinc 6 1, 3) := by decide +kernel
theorem dX8_letter_79 : decode cX8_letter 79 = .ok (.lload 7, 2) := by decide +kernel
theorem dX8_letter_81 : decode cX8_letter 81 = .ok (.ldc2_w 300, 3) := by decide +kernel
theorem dX8_letter_84 : decode cX8_letter 84 = .ok (.ldiv, 1) := by decide +kernel
theorem dX8_letter_85 : decode cX8_letter 85 = .ok (.lstore 7, 2) := by decide +kernel
theorem dX8_letter_87 : decode cX8_letter 87 = .ok (.goto (-18), 3) := by decide +kernel
theorem dX8_letter_90 : decode cX8_letter 90 = .ok (.iload_n 3, 1) := by decide +kernel
theorem dX8_letter_91 : decode cX8_letter 91 = .ok (.iload 6, 2) := by decide +kernel
theorem dX8_letter_93 : decode cX8_letter 93 = .ok (.if_icmp .lt 5, 3) := by decide +kernel
theorem dX8_letter_96 : decode cX8_letter 96 = .ok (.iconst 0, 1) := by decide +kernel
theorem dX8_letter_97 : decode cX8_letter 97 = .ok (.ireturn, 1) := by decide +kernel
theorem dX8_letter_98 : decode cX8_letter 98 = .ok (.iload 6, 2) := by decide +kernel
theorem dX8_letter_100 : decode cX8_letter 100 = .ok (.iconst 1, 1) := by decide +kernel
theorem dX8_letter_101 : decode cX8_letter 101 = .ok (.isub, 1) := by decide +kernel
theorem dX8_letter_102 : decode cX8_letter 102 = .ok (.istore 7, 2) := by decide +kernel
theorem dX8_letter_104 : decode cX8_letter 104 = .ok (.iload 7, 2) := by decide +kernel
theorem dX8_letter_106 : decode cX8_letter 106 = .ok (.iload_n 3, 1) := by decide +kernel
theorem dX8_letter_107 : decode cX8_letter 107 = .ok (.if_icmp .le 17, 3) := by decide +kernel
theorem dX8_letter_110 : decode cX8_letter 110 = .ok (.lload 4, 2) := by decide +kernel
theorem dX8_letter_112 : decode cX8_letter 112 = .ok (.ldc2_w 300, 3) := by decide +kernel
theorem dX8_letter_115 : decode cX8_letter 115 = .ok (.ldiv, 1) := by decide +kernel
theorem dX8_letter_116 : decode cX8_letter 116 = .ok (.lstore 4, 2) := by decide +kernel
theorem dX8_letter_118 : decode cX8_letter 118 = .ok (.iinc 7 (-1), 3) := by decide +kernel
theorem dX8_letter_121 : decode cX8_letter 121 = .ok (.goto (-17), 3) := by decide +kernel
theorem dX8_letter_124 : decode cX8_letter 124 = .ok (.lload 4, 2) := by decide +kernel
theorem dX8_letter_126 : decode cX8_letter 126 = .ok (.ldc2_w 300, 3) := by decide +kernel
theorem dX8_letter_129 : decode cX8_letter 129 = .ok (.lrem, 1) := by decide +kernel
theorem dX8_letter_130 : decode cX8_letter 130 = .ok (.l2i, 1) := by decide +kernel
theorem dX8_letter_131 : decode cX8_letter 131 = .ok (.ireturn, 1) := by decide +kernel
theorem dX8_song_0 : decode cX8_song 0 = .ok (.iload_n 1, 1) := by decide +kernel
theorem dX8_song_1 : decode cX8_song 1 = .ok (.i2l, 1) := by decide +kernel
theorem dX8_song_2 : decode cX8_song 2 = .ok (.lconst 0, 1) := by decide +kernel
theorem dX8_song_3 : decode cX8_song 3 = .ok (.aload_n 0, 1) := by decide +kernel
theorem dX8_song_4 : decode cX8_song 4 = .ok (.invokevirtual 504, 3) := by decide +kernel
theorem dX8_song_7 : decode cX8_song 7 = .ok (.iconst 1, 1) := by decide +kernel
theorem dX8_song_8 : decode cX8_song 8 = .ok (.isub, 1) := by decide +kernel
theorem dX8_song_9 : decode cX8_song 9 = .ok (.i2l, 1) := by decide +kernel
theorem dX8_song_10 : decode cX8_song 10 = .ok (.invokestatic 289, 3) := by decide +kernel
theorem dX8_song_13 : decode cX8_song 13 = .ok (.ifCond .eq 29, 3) := by decide +kernel
theorem dX8_song_16 : decode cX8_song 16 = .ok (.iload_n 2, 1) := by decide +kernel
theorem dX8_song_17 : decode cX8_song 17 = .ok (.i2l, 1) := by decide +kernel
theorem dX8_song_18 : decode cX8_song 18 = .ok (.lconst 0, 1) := by decide +kernel
theorem dX8_song_19 : decode cX8_song 19 = .ok (.lconst 1, 1) := by decide +kernel
theorem dX8_song_20 : decode cX8_song 20 = .ok (.invokestatic 289, 3) := by decide +kernel
theorem dX8_song_23 : decode cX8_song 23 = .ok (.ifCond .eq 19, 3) := by decide +kernel
theorem dX8_song_26 : decode cX8_song 26 = .ok (.aload_n 0, 1) := by decide +kernel
theorem dX8_song_27 : decode cX8_song 27 = .ok (.getfield 115, 3) := by decide +kernel
theorem dX8_song_30 : decode cX8_song 30 = .ok (.bipush 12, 2) := by decide +kernel
theorem dX8_song_32 : decode cX8_song 32 = .ok (.iconst 2, 1) := by decide +kernel
theorem dX8_song_33 : decode cX8_song 33 = .ok (.iload_n 1, 1) := by decide +kernel
theorem dX8_song_34 : decode cX8_song 34 = .ok (.imul, 1) := by decide +kernel
theorem dX8_song_35 : decode cX8_song 35 = .ok (.iadd, 1) := by decide +kernel
theorem dX8_song_36 : decode cX8_song 36 = .ok (.iload_n 2, 1) := by decide +kernel
theorem dX8_song_37 : decode cX8_song 37 = .ok (.iadd, 1) := by decide +kernel
theorem dX8_song_38 : decode cX8_song 38 = .ok (.iaload, 1) := by decide +kernel
theorem dX8_song_39 : decode cX8_song 39 = .ok (.goto 4, 3) := by decide +kernel
theorem dX8_song_42 : decode cX8_song 42 = .ok (.iconst (-1), 1) := by decide +kernel
theorem dX8_song_43 : decode cX8_song 43 = .ok (.ireturn, 1) := by decide +kernel
theorem dX8_asker_0 : decode cX8_asker 0 = .ok (.aload_n 0, 1) := by decide +kernel
theorem dX8_asker_1 : decode cX8_asker 1 = .ok (.iload_n 1, 1) := by decide +kernel
theorem dX8_asker_2 : decode cX8_asker 2 = .ok (.invokevirtual 507, 3) := by decide +kernel
theorem dX8_asker_5 : decode cX8_asker 5 = .ok (.ifCond .ne 5, 3) := by decide +kernel
theorem dX8_asker_8 : decode cX8_asker 8 = .ok (.iconst (-1), 1) := by decide +kernel
theorem dX8_asker_9 : decode cX8_asker 9 = .ok (.ireturn, 1) := by decide +kernel
theorem dX8_asker_10 : decode cX8_asker 10 = .ok (.iload_n 2, 1) := by decide +kernel
theorem dX8_asker_11 : decode cX8_asker 11 = .ok (.tableswitch 81 0 5 #[37, 43, 49, 55, 61, 67], 37) := by decide +kernel
theorem dX8_asker_48 : decode cX8_asker 48 = .ok (.aload_n 0, 1) := by decide +kernel
theorem dX8_asker_49 : decode cX8_asker 49 = .ok (.iload_n 1, 1) := by decide +kernel
theorem dX8_asker_50 : decode cX8_asker 50 = .ok (.invokevirtual 398, 3) := by decide +kernel
theorem dX8_asker_53 : decode cX8_asker 53 = .ok (.ireturn, 1) := by decide +kernel
theorem dX8_asker_54 : decode cX8_asker 54 = .ok (.aload_n 0, 1) := by decide +kernel
theorem dX8_asker_55 : decode cX8_asker 55 = .ok (.iload_n 1, 1) := by decide +kernel
theorem dX8_asker_56 : decode cX8_asker 56 = .ok (.invokevirtual 402, 3) := by decide +kernel
theorem dX8_asker_59 : decode cX8_asker 59 = .ok (.ireturn, 1) := by decide +kernel
theorem dX8_asker_60 : decode cX8_asker 60 = .ok (.aload_n 0, 1) := by decide +kernel
theorem dX8_asker_61 : decode cX8_asker 61 = .ok (.iload_n 1, 1) := by decide +kernel
theorem dX8_asker_62 : decode cX8_asker 62 = .ok (.invokevirtual 425, 3) := by decide +kernel
theorem dX8_asker_65 : decode cX8_asker 65 = .ok (.ireturn, 1) := by decide +kernel
theorem dX8_asker_66 : decode cX8_asker 66 = .ok (.aload_n 0, 1) := by decide +kernel
theorem dX8_asker_67 : decode cX8_asker 67 = .ok (.iload_n 1, 1) := by decide +kernel
theorem dX8_asker_68 : decode cX8_asker 68 = .ok (.invokevirtual 464, 3) := by decide +kernel
theorem dX8_asker_71 : decode cX8_asker 71 = .ok (.ireturn, 1) := by decide +kernel
theorem dX8_asker_72 : decode cX8_asker 72 = .ok (.aload_n 0, 1) := by decide +kernel
theorem dX8_asker_73 : decode cX8_asker 73 = .ok (.iload_n 1, 1) := by decide +kernel
