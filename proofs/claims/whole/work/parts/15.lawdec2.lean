theorem d_L_law_581 : decode c_L_law 581 = .ok (.iadd, 1) := by decide +kernel
theorem d_L_law_582 : decode c_L_law 582 = .ok (.iaload, 1) := by decide +kernel
theorem d_L_law_583 : decode c_L_law 583 = .ok (.invokestatic 126, 3) := by decide +kernel
theorem d_L_law_586 : decode c_L_law 586 = .ok (.istore 5, 2) := by decide +kernel
theorem d_L_law_588 : decode c_L_law 588 = .ok (.aload_n 2, 1) := by decide +kernel
theorem d_L_law_589 : decode c_L_law 589 = .ok (.aload_n 0, 1) := by decide +kernel
theorem d_L_law_590 : decode c_L_law 590 = .ok (.iload 4, 2) := by decide +kernel
theorem d_L_law_592 : decode c_L_law 592 = .ok (.iconst 1, 1) := by decide +kernel
theorem d_L_law_593 : decode c_L_law 593 = .ok (.iadd, 1) := by decide +kernel
theorem d_L_law_594 : decode c_L_law 594 = .ok (.iaload, 1) := by decide +kernel
theorem d_L_law_595 : decode c_L_law 595 = .ok (.aload_n 0, 1) := by decide +kernel
theorem d_L_law_596 : decode c_L_law 596 = .ok (.iload 4, 2) := by decide +kernel
theorem d_L_law_598 : decode c_L_law 598 = .ok (.iconst 2, 1) := by decide +kernel
theorem d_L_law_599 : decode c_L_law 599 = .ok (.iadd, 1) := by decide +kernel
theorem d_L_law_600 : decode c_L_law 600 = .ok (.iaload, 1) := by decide +kernel
theorem d_L_law_601 : decode c_L_law 601 = .ok (.aload_n 0, 1) := by decide +kernel
theorem d_L_law_602 : decode c_L_law 602 = .ok (.iload 4, 2) := by decide +kernel
theorem d_L_law_604 : decode c_L_law 604 = .ok (.iconst 3, 1) := by decide +kernel
theorem d_L_law_605 : decode c_L_law 605 = .ok (.iadd, 1) := by decide +kernel
theorem d_L_law_606 : decode c_L_law 606 = .ok (.iaload, 1) := by decide +kernel
theorem d_L_law_607 : decode c_L_law 607 = .ok (.invokevirtual 129, 3) := by decide +kernel
theorem d_L_law_610 : decode c_L_law 610 = .ok (.aload_n 2, 1) := by decide +kernel
theorem d_L_law_611 : decode c_L_law 611 = .ok (.invokevirtual 103, 3) := by decide +kernel
theorem d_L_law_614 : decode c_L_law 614 = .ok (.iload 5, 2) := by decide +kernel
theorem d_L_law_616 : decode c_L_law 616 = .ok (.if_icmp .eq 5, 3) := by decide +kernel
theorem d_L_law_619 : decode c_L_law 619 = .ok (.iconst 0, 1) := by decide +kernel
theorem d_L_law_620 : decode c_L_law 620 = .ok (.ireturn, 1) := by decide +kernel
theorem d_L_law_621 : decode c_L_law 621 = .ok (.goto 908, 3) := by decide +kernel
theorem d_L_law_624 : decode c_L_law 624 = .ok (.aload_n 1, 1) := by decide +kernel
theorem d_L_law_625 : decode c_L_law 625 = .ok (.aload_n 0, 1) := by decide +kernel
theorem d_L_law_626 : decode c_L_law 626 = .ok (.iload 4, 2) := by decide +kernel
theorem d_L_law_628 : decode c_L_law 628 = .ok (.iconst 1, 1) := by decide +kernel
theorem d_L_law_629 : decode c_L_law 629 = .ok (.iadd, 1) := by decide +kernel
theorem d_L_law_630 : decode c_L_law 630 = .ok (.iaload, 1) := by decide +kernel
theorem d_L_law_631 : decode c_L_law 631 = .ok (.aload_n 0, 1) := by decide +kernel
theorem d_L_law_632 : decode c_L_law 632 = .ok (.iload 4, 2) := by decide +kernel
theorem d_L_law_634 : decode c_L_law 634 = .ok (.iconst 2, 1) := by decide +kernel
theorem d_L_law_635 : decode c_L_law 635 = .ok (.iadd, 1) := by decide +kernel
theorem d_L_law_636 : decode c_L_law 636 = .ok (.iaload, 1) := by decide +kernel
theorem d_L_law_637 : decode c_L_law 637 = .ok (.aload_n 0, 1) := by decide +kernel
theorem d_L_law_638 : decode c_L_law 638 = .ok (.iload 4, 2) := by decide +kernel
theorem d_L_law_640 : decode c_L_law 640 = .ok (.iconst 3, 1) := by decide +kernel
theorem d_L_law_641 : decode c_L_law 641 = .ok (.iadd, 1) := by decide +kernel
theorem d_L_law_642 : decode c_L_law 642 = .ok (.iaload, 1) := by decide +kernel
theorem d_L_law_643 : decode c_L_law 643 = .ok (.invokestatic 130, 3) := by decide +kernel
theorem d_L_law_646 : decode c_L_law 646 = .ok (.istore 5, 2) := by decide +kernel
theorem d_L_law_648 : decode c_L_law 648 = .ok (.aload_n 2, 1) := by decide +kernel
theorem d_L_law_649 : decode c_L_law 649 = .ok (.aload_n 0, 1) := by decide +kernel
theorem d_L_law_650 : decode c_L_law 650 = .ok (.iload 4, 2) := by decide +kernel
theorem d_L_law_652 : decode c_L_law 652 = .ok (.iconst 1, 1) := by decide +kernel
theorem d_L_law_653 : decode c_L_law 653 = .ok (.iadd, 1) := by decide +kernel
theorem d_L_law_654 : decode c_L_law 654 = .ok (.iaload, 1) := by decide +kernel
theorem d_L_law_655 : decode c_L_law 655 = .ok (.aload_n 0, 1) := by decide +kernel
theorem d_L_law_656 : decode c_L_law 656 = .ok (.iload 4, 2) := by decide +kernel
theorem d_L_law_658 : decode c_L_law 658 = .ok (.iconst 2, 1) := by decide +kernel
theorem d_L_law_659 : decode c_L_law 659 = .ok (.iadd, 1) := by decide +kernel
theorem d_L_law_660 : decode c_L_law 660 = .ok (.iaload, 1) := by decide +kernel
theorem d_L_law_661 : decode c_L_law 661 = .ok (.aload_n 0, 1) := by decide +kernel
theorem d_L_law_662 : decode c_L_law 662 = .ok (.iload 4, 2) := by decide +kernel
theorem d_L_law_664 : decode c_L_law 664 = .ok (.iconst 3, 1) := by decide +kernel
theorem d_L_law_665 : decode c_L_law 665 = .ok (.iadd, 1) := by decide +kernel
theorem d_L_law_666 : decode c_L_law 666 = .ok (.iaload, 1) := by decide +kernel
theorem d_L_law_667 : decode c_L_law 667 = .ok (.invokevirtual 132, 3) := by decide +kernel
theorem d_L_law_670 : decode c_L_law 670 = .ok (.aload_n 2, 1) := by decide +kernel
theorem d_L_law_671 : decode c_L_law 671 = .ok (.invokevirtual 103, 3) := by decide +kernel
theorem d_L_law_674 : decode c_L_law 674 = .ok (.iload 5, 2) := by decide +kernel
theorem d_L_law_676 : decode c_L_law 676 = .ok (.if_icmp .eq 5, 3) := by decide +kernel
theorem d_L_law_679 : decode c_L_law 679 = .ok (.iconst 0, 1) := by decide +kernel
theorem d_L_law_680 : decode c_L_law 680 = .ok (.ireturn, 1) := by decide +kernel
theorem d_L_law_681 : decode c_L_law 681 = .ok (.goto 848, 3) := by decide +kernel
theorem d_L_law_684 : decode c_L_law 684 = .ok (.aload_n 1, 1) := by decide +kernel
theorem d_L_law_685 : decode c_L_law 685 = .ok (.aload_n 0, 1) := by decide +kernel
theorem d_L_law_686 : decode c_L_law 686 = .ok (.iload 4, 2) := by decide +kernel
theorem d_L_law_688 : decode c_L_law 688 = .ok (.iconst 1, 1) := by decide +kernel
theorem d_L_law_689 : decode c_L_law 689 = .ok (.iadd, 1) := by decide +kernel
theorem d_L_law_690 : decode c_L_law 690 = .ok (.iaload, 1) := by decide +kernel
theorem d_L_law_691 : decode c_L_law 691 = .ok (.aload_n 0, 1) := by decide +kernel
theorem d_L_law_692 : decode c_L_law 692 = .ok (.iload 4, 2) := by decide +kernel
theorem d_L_law_694 : decode c_L_law 694 = .ok (.iconst 2, 1) := by decide +kernel
theorem d_L_law_695 : decode c_L_law 695 = .ok (.iadd, 1) := by decide +kernel
theorem d_L_law_696 : decode c_L_law 696 = .ok (.iaload, 1) := by decide +kernel
theorem d_L_law_697 : decode c_L_law 697 = .ok (.aload_n 0, 1) := by decide +kernel
theorem d_L_law_698 : decode c_L_law 698 = .ok (.iload 4, 2) := by decide +kernel
theorem d_L_law_700 : decode c_L_law 700 = .ok (.iconst 3, 1) := by decide +kernel
theorem d_L_law_701 : decode c_L_law 701 = .ok (.iadd, 1) := by decide +kernel
theorem d_L_law_702 : decode c_L_law 702 = .ok (.iaload, 1) := by decide +kernel
theorem d_L_law_703 : decode c_L_law 703 = .ok (.aload_n 3, 1) := by decide +kernel
theorem d_L_law_704 : decode c_L_law 704 = .ok (.invokestatic 133, 3) := by decide +kernel
theorem d_L_law_707 : decode c_L_law 707 = .ok (.istore 5, 2) := by decide +kernel
theorem d_L_law_709 : decode c_L_law 709 = .ok (.aload_n 2, 1) := by decide +kernel
theorem d_L_law_710 : decode c_L_law 710 = .ok (.aload_n 0, 1) := by decide +kernel
theorem d_L_law_711 : decode c_L_law 711 = .ok (.iload 4, 2) := by decide +kernel
theorem d_L_law_713 : decode c_L_law 713 = .ok (.iconst 1, 1) := by decide +kernel
theorem d_L_law_714 : decode c_L_law 714 = .ok (.iadd, 1) := by decide +kernel
theorem d_L_law_715 : decode c_L_law 715 = .ok (.iaload, 1) := by decide +kernel
theorem d_L_law_716 : decode c_L_law 716 = .ok (.aload_n 0, 1) := by decide +kernel
theorem d_L_law_717 : decode c_L_law 717 = .ok (.iload 4, 2) := by decide +kernel
theorem d_L_law_719 : decode c_L_law 719 = .ok (.iconst 2, 1) := by decide +kernel
theorem d_L_law_720 : decode c_L_law 720 = .ok (.iadd, 1) := by decide +kernel
theorem d_L_law_721 : decode c_L_law 721 = .ok (.iaload, 1) := by decide +kernel
theorem d_L_law_722 : decode c_L_law 722 = .ok (.aload_n 0, 1) := by decide +kernel
theorem d_L_law_723 : decode c_L_law 723 = .ok (.iload 4, 2) := by decide +kernel
theorem d_L_law_725 : decode c_L_law 725 = .ok (.iconst 3, 1) := by decide +kernel
theorem d_L_law_726 : decode c_L_law 726 = .ok (.iadd, 1) := by decide +kernel
theorem d_L_law_727 : decode c_L_law 727 = .ok (.iaload, 1) := by decide +kernel
theorem d_L_law_728 : decode c_L_law 728 = .ok (.invokevirtual 136, 3) := by decide +kernel
theorem d_L_law_731 : decode c_L_law 731 = .ok (.istore 6, 2) := by decide +kernel
theorem d_L_law_733 : decode c_L_law 733 = .ok (.aload_n 2, 1) := by decide +kernel
theorem d_L_law_734 : decode c_L_law 734 = .ok (.invokevirtual 103, 3) := by decide +kernel
theorem d_L_law_737 : decode c_L_law 737 = .ok (.iload 5, 2) := by decide +kernel
theorem d_L_law_739 : decode c_L_law 739 = .ok (.if_icmp .eq 5, 3) := by decide +kernel
theorem d_L_law_742 : decode c_L_law 742 = .ok (.iconst 0, 1) := by decide +kernel
theorem d_L_law_743 : decode c_L_law 743 = .ok (.ireturn, 1) := by decide +kernel
theorem d_L_law_744 : decode c_L_law 744 = .ok (.iload 5, 2) := by decide +kernel
theorem d_L_law_746 : decode c_L_law 746 = .ok (.ifCond .ne 15, 3) := by decide +kernel
theorem d_L_law_749 : decode c_L_law 749 = .ok (.aload_n 3, 1) := by decide +kernel
theorem d_L_law_750 : decode c_L_law 750 = .ok (.iconst 0, 1) := by decide +kernel
theorem d_L_law_751 : decode c_L_law 751 = .ok (.laload, 1) := by decide +kernel
theorem d_L_law_752 : decode c_L_law 752 = .ok (.iload 6, 2) := by decide +kernel
theorem d_L_law_754 : decode c_L_law 754 = .ok (.i2l, 1) := by decide +kernel
theorem d_L_law_755 : decode c_L_law 755 = .ok (.lcmp, 1) := by decide +kernel
theorem d_L_law_756 : decode c_L_law 756 = .ok (.ifCond .eq 5, 3) := by decide +kernel
theorem d_L_law_759 : decode c_L_law 759 = .ok (.iconst 0, 1) := by decide +kernel
theorem d_L_law_760 : decode c_L_law 760 = .ok (.ireturn, 1) := by decide +kernel
theorem d_L_law_761 : decode c_L_law 761 = .ok (.goto 768, 3) := by decide +kernel
theorem d_L_law_764 : decode c_L_law 764 = .ok (.aload_n 1, 1) := by decide +kernel
theorem d_L_law_765 : decode c_L_law 765 = .ok (.aload_n 0, 1) := by decide +kernel
theorem d_L_law_766 : decode c_L_law 766 = .ok (.iload 4, 2) := by decide +kernel
theorem d_L_law_768 : decode c_L_law 768 = .ok (.iconst 1, 1) := by decide +kernel
theorem d_L_law_769 : decode c_L_law 769 = .ok (.iadd, 1) := by decide +kernel
theorem d_L_law_770 : decode c_L_law 770 = .ok (.iaload, 1) := by decide +kernel
theorem d_L_law_771 : decode c_L_law 771 = .ok (.aload_n 0, 1) := by decide +kernel
theorem d_L_law_772 : decode c_L_law 772 = .ok (.iload 4, 2) := by decide +kernel
theorem d_L_law_774 : decode c_L_law 774 = .ok (.iconst 2, 1) := by decide +kernel
theorem d_L_law_775 : decode c_L_law 775 = .ok (.iadd, 1) := by decide +kernel
theorem d_L_law_776 : decode c_L_law 776 = .ok (.iaload, 1) := by decide +kernel
theorem d_L_law_777 : decode c_L_law 777 = .ok (.invokestatic 137, 3) := by decide +kernel
theorem d_L_law_780 : decode c_L_law 780 = .ok (.istore 5, 2) := by decide +kernel
theorem d_L_law_782 : decode c_L_law 782 = .ok (.aload_n 2, 1) := by decide +kernel
theorem d_L_law_783 : decode c_L_law 783 = .ok (.aload_n 0, 1) := by decide +kernel
theorem d_L_law_784 : decode c_L_law 784 = .ok (.iload 4, 2) := by decide +kernel
theorem d_L_law_786 : decode c_L_law 786 = .ok (.iconst 1, 1) := by decide +kernel
theorem d_L_law_787 : decode c_L_law 787 = .ok (.iadd, 1) := by decide +kernel
theorem d_L_law_788 : decode c_L_law 788 = .ok (.iaload, 1) := by decide +kernel
theorem d_L_law_789 : decode c_L_law 789 = .ok (.aload_n 0, 1) := by decide +kernel
theorem d_L_law_790 : decode c_L_law 790 = .ok (.iload 4, 2) := by decide +kernel
theorem d_L_law_792 : decode c_L_law 792 = .ok (.iconst 2, 1) := by decide +kernel
theorem d_L_law_793 : decode c_L_law 793 = .ok (.iadd, 1) := by decide +kernel
theorem d_L_law_794 : decode c_L_law 794 = .ok (.iaload, 1) := by decide +kernel
theorem d_L_law_795 : decode c_L_law 795 = .ok (.invokevirtual 139, 3) := by decide +kernel
theorem d_L_law_798 : decode c_L_law 798 = .ok (.aload_n 2, 1) := by decide +kernel
theorem d_L_law_799 : decode c_L_law 799 = .ok (.invokevirtual 103, 3) := by decide +kernel
theorem d_L_law_802 : decode c_L_law 802 = .ok (.iload 5, 2) := by decide +kernel
theorem d_L_law_804 : decode c_L_law 804 = .ok (.if_icmp .eq 5, 3) := by decide +kernel
theorem d_L_law_807 : decode c_L_law 807 = .ok (.iconst 0, 1) := by decide +kernel
theorem d_L_law_808 : decode c_L_law 808 = .ok (.ireturn, 1) := by decide +kernel
theorem d_L_law_809 : decode c_L_law 809 = .ok (.goto 720, 3) := by decide +kernel
theorem d_L_law_812 : decode c_L_law 812 = .ok (.aload_n 1, 1) := by decide +kernel
theorem d_L_law_813 : decode c_L_law 813 = .ok (.aload_n 0, 1) := by decide +kernel
theorem d_L_law_814 : decode c_L_law 814 = .ok (.iload 4, 2) := by decide +kernel
theorem d_L_law_816 : decode c_L_law 816 = .ok (.iconst 1, 1) := by decide +kernel
theorem d_L_law_817 : decode c_L_law 817 = .ok (.iadd, 1) := by decide +kernel
theorem d_L_law_818 : decode c_L_law 818 = .ok (.iaload, 1) := by decide +kernel
theorem d_L_law_819 : decode c_L_law 819 = .ok (.aload_n 0, 1) := by decide +kernel
theorem d_L_law_820 : decode c_L_law 820 = .ok (.iload 4, 2) := by decide +kernel
theorem d_L_law_822 : decode c_L_law 822 = .ok (.iconst 2, 1) := by decide +kernel
theorem d_L_law_823 : decode c_L_law 823 = .ok (.iadd, 1) := by decide +kernel
theorem d_L_law_824 : decode c_L_law 824 = .ok (.iaload, 1) := by decide +kernel
theorem d_L_law_825 : decode c_L_law 825 = .ok (.invokestatic 140, 3) := by decide +kernel
theorem d_L_law_828 : decode c_L_law 828 = .ok (.istore 5, 2) := by decide +kernel
theorem d_L_law_830 : decode c_L_law 830 = .ok (.aload_n 2, 1) := by decide +kernel
theorem d_L_law_831 : decode c_L_law 831 = .ok (.aload_n 0, 1) := by decide +kernel
theorem d_L_law_832 : decode c_L_law 832 = .ok (.iload 4, 2) := by decide +kernel
theorem d_L_law_834 : decode c_L_law 834 = .ok (.iconst 1, 1) := by decide +kernel
theorem d_L_law_835 : decode c_L_law 835 = .ok (.iadd, 1) := by decide +kernel
theorem d_L_law_836 : decode c_L_law 836 = .ok (.iaload, 1) := by decide +kernel
theorem d_L_law_837 : decode c_L_law 837 = .ok (.aload_n 0, 1) := by decide +kernel
theorem d_L_law_838 : decode c_L_law 838 = .ok (.iload 4, 2) := by decide +kernel
theorem d_L_law_840 : decode c_L_law 840 = .ok (.iconst 2, 1) := by decide +kernel
theorem d_L_law_841 : decode c_L_law 841 = .ok (.iadd, 1) := by decide +kernel
theorem d_L_law_842 : decode c_L_law 842 = .ok (.iaload, 1) := by decide +kernel
theorem d_L_law_843 : decode c_L_law 843 = .ok (.invokevirtual 142, 3) := by decide +kernel
theorem d_L_law_846 : decode c_L_law 846 = .ok (.aload_n 2, 1) := by decide +kernel
theorem d_L_law_847 : decode c_L_law 847 = .ok (.invokevirtual 103, 3) := by decide +kernel
theorem d_L_law_850 : decode c_L_law 850 = .ok (.iload 5, 2) := by decide +kernel
theorem d_L_law_852 : decode c_L_law 852 = .ok (.if_icmp .eq 5, 3) := by decide +kernel
theorem d_L_law_855 : decode c_L_law 855 = .ok (.iconst 0, 1) := by decide +kernel
theorem d_L_law_856 : decode c_L_law 856 = .ok (.ireturn, 1) := by decide +kernel
theorem d_L_law_857 : decode c_L_law 857 = .ok (.goto 672, 3) := by decide +kernel
theorem d_L_law_860 : decode c_L_law 860 = .ok (.aload_n 1, 1) := by decide +kernel
theorem d_L_law_861 : decode c_L_law 861 = .ok (.aload_n 0, 1) := by decide +kernel
theorem d_L_law_862 : decode c_L_law 862 = .ok (.iload 4, 2) := by decide +kernel
theorem d_L_law_864 : decode c_L_law 864 = .ok (.iconst 1, 1) := by decide +kernel
theorem d_L_law_865 : decode c_L_law 865 = .ok (.iadd, 1) := by decide +kernel
theorem d_L_law_866 : decode c_L_law 866 = .ok (.iaload, 1) := by decide +kernel
theorem d_L_law_867 : decode c_L_law 867 = .ok (.aload_n 0, 1) := by decide +kernel
theorem d_L_law_868 : decode c_L_law 868 = .ok (.iload 4, 2) := by decide +kernel
theorem d_L_law_870 : decode c_L_law 870 = .ok (.iconst 2, 1) := by decide +kernel
theorem d_L_law_871 : decode c_L_law 871 = .ok (.iadd, 1) := by decide +kernel
theorem d_L_law_872 : decode c_L_law 872 = .ok (.iaload, 1) := by decide +kernel
theorem d_L_law_873 : decode c_L_law 873 = .ok (.aload_n 3, 1) := by decide +kernel
theorem d_L_law_874 : decode c_L_law 874 = .ok (.invokestatic 143, 3) := by decide +kernel
theorem d_L_law_877 : decode c_L_law 877 = .ok (.istore 5, 2) := by decide +kernel
theorem d_L_law_879 : decode c_L_law 879 = .ok (.aload_n 2, 1) := by decide +kernel
theorem d_L_law_880 : decode c_L_law 880 = .ok (.aload_n 0, 1) := by decide +kernel
theorem d_L_law_881 : decode c_L_law 881 = .ok (.iload 4, 2) := by decide +kernel
theorem d_L_law_883 : decode c_L_law 883 = .ok (.iconst 1, 1) := by decide +kernel
theorem d_L_law_884 : decode c_L_law 884 = .ok (.iadd, 1) := by decide +kernel
theorem d_L_law_885 : decode c_L_law 885 = .ok (.iaload, 1) := by decide +kernel
theorem d_L_law_886 : decode c_L_law 886 = .ok (.aload_n 0, 1) := by decide +kernel
theorem d_L_law_887 : decode c_L_law 887 = .ok (.iload 4, 2) := by decide +kernel
theorem d_L_law_889 : decode c_L_law 889 = .ok (.iconst 2, 1) := by decide +kernel
theorem d_L_law_890 : decode c_L_law 890 = .ok (.iadd, 1) := by decide +kernel
theorem d_L_law_891 : decode c_L_law 891 = .ok (.iaload, 1) := by decide +kernel
theorem d_L_law_892 : decode c_L_law 892 = .ok (.invokevirtual 145, 3) := by decide +kernel
theorem d_L_law_895 : decode c_L_law 895 = .ok (.istore 6, 2) := by decide +kernel
theorem d_L_law_897 : decode c_L_law 897 = .ok (.aload_n 2, 1) := by decide +kernel
theorem d_L_law_898 : decode c_L_law 898 = .ok (.invokevirtual 103, 3) := by decide +kernel
theorem d_L_law_901 : decode c_L_law 901 = .ok (.iload 5, 2) := by decide +kernel
theorem d_L_law_903 : decode c_L_law 903 = .ok (.if_icmp .eq 5, 3) := by decide +kernel
theorem d_L_law_906 : decode c_L_law 906 = .ok (.iconst 0, 1) := by decide +kernel
theorem d_L_law_907 : decode c_L_law 907 = .ok (.ireturn, 1) := by decide +kernel
theorem d_L_law_908 : decode c_L_law 908 = .ok (.iload 5, 2) := by decide +kernel
theorem d_L_law_910 : decode c_L_law 910 = .ok (.ifCond .ne 15, 3) := by decide +kernel
theorem d_L_law_913 : decode c_L_law 913 = .ok (.aload_n 3, 1) := by decide +kernel
theorem d_L_law_914 : decode c_L_law 914 = .ok (.iconst 0, 1) := by decide +kernel
theorem d_L_law_915 : decode c_L_law 915 = .ok (.laload, 1) := by decide +kernel
theorem d_L_law_916 : decode c_L_law 916 = .ok (.iload 6, 2) := by decide +kernel
theorem d_L_law_918 : decode c_L_law 918 = .ok (.i2l, 1) := by decide +kernel
theorem d_L_law_919 : decode c_L_law 919 = .ok (.lcmp, 1) := by decide +kernel
theorem d_L_law_920 : decode c_L_law 920 = .ok (.ifCond .eq 5, 3) := by decide +kernel
theorem d_L_law_923 : decode c_L_law 923 = .ok (.iconst 0, 1) := by decide +kernel
theorem d_L_law_924 : decode c_L_law 924 = .ok (.ireturn, 1) := by decide +kernel
theorem d_L_law_925 : decode c_L_law 925 = .ok (.goto 604, 3) := by decide +kernel
theorem d_L_law_928 : decode c_L_law 928 = .ok (.aload_n 1, 1) := by decide +kernel
theorem d_L_law_929 : decode c_L_law 929 = .ok (.aload_n 0, 1) := by decide +kernel
theorem d_L_law_930 : decode c_L_law 930 = .ok (.iload 4, 2) := by decide +kernel
theorem d_L_law_932 : decode c_L_law 932 = .ok (.iconst 1, 1) := by decide +kernel
theorem d_L_law_933 : decode c_L_law 933 = .ok (.iadd, 1) := by decide +kernel
theorem d_L_law_934 : decode c_L_law 934 = .ok (.iaload, 1) := by decide +kernel
theorem d_L_law_935 : decode c_L_law 935 = .ok (.aload_n 0, 1) := by decide +kernel
theorem d_L_law_936 : decode c_L_law 936 = .ok (.iload 4, 2) := by decide +kernel
theorem d_L_law_938 : decode c_L_law 938 = .ok (.iconst 2, 1) := by decide +kernel
theorem d_L_law_939 : decode c_L_law 939 = .ok (.iadd, 1) := by decide +kernel
theorem d_L_law_940 : decode c_L_law 940 = .ok (.iaload, 1) := by decide +kernel
theorem d_L_law_941 : decode c_L_law 941 = .ok (.aload_n 0, 1) := by decide +kernel
theorem d_L_law_942 : decode c_L_law 942 = .ok (.iload 4, 2) := by decide +kernel
theorem d_L_law_944 : decode c_L_law 944 = .ok (.iconst 3, 1) := by decide +kernel
theorem d_L_law_945 : decode c_L_law 945 = .ok (.iadd, 1) := by decide +kernel
theorem d_L_law_946 : decode c_L_law 946 = .ok (.iaload, 1) := by decide +kernel
theorem d_L_law_947 : decode c_L_law 947 = .ok (.i2l, 1) := by decide +kernel
theorem d_L_law_948 : decode c_L_law 948 = .ok (.bipush 32, 2) := by decide +kernel
theorem d_L_law_950 : decode c_L_law 950 = .ok (.lshl, 1) := by decide +kernel
theorem d_L_law_951 : decode c_L_law 951 = .ok (.aload_n 0, 1) := by decide +kernel
theorem d_L_law_952 : decode c_L_law 952 = .ok (.iload 4, 2) := by decide +kernel
theorem d_L_law_954 : decode c_L_law 954 = .ok (.iconst 4, 1) := by decide +kernel
theorem d_L_law_955 : decode c_L_law 955 = .ok (.iadd, 1) := by decide +kernel
theorem d_L_law_956 : decode c_L_law 956 = .ok (.iaload, 1) := by decide +kernel
theorem d_L_law_957 : decode c_L_law 957 = .ok (.i2l, 1) := by decide +kernel
theorem d_L_law_958 : decode c_L_law 958 = .ok (.ldc2_w 146, 3) := by decide +kernel
theorem d_L_law_961 : decode c_L_law 961 = .ok (.land, 1) := by decide +kernel
theorem d_L_law_962 : decode c_L_law 962 = .ok (.lor, 1) := by decide +kernel
theorem d_L_law_963 : decode c_L_law 963 = .ok (.invokestatic 148, 3) := by decide +kernel
theorem d_L_law_966 : decode c_L_law 966 = .ok (.istore 5, 2) := by decide +kernel
theorem d_L_law_968 : decode c_L_law 968 = .ok (.aload_n 2, 1) := by decide +kernel
theorem d_L_law_969 : decode c_L_law 969 = .ok (.aload_n 0, 1) := by decide +kernel
theorem d_L_law_970 : decode c_L_law 970 = .ok (.iload 4, 2) := by decide +kernel
theorem d_L_law_972 : decode c_L_law 972 = .ok (.iconst 1, 1) := by decide +kernel
theorem d_L_law_973 : decode c_L_law 973 = .ok (.iadd, 1) := by decide +kernel
theorem d_L_law_974 : decode c_L_law 974 = .ok (.iaload, 1) := by decide +kernel
theorem d_L_law_975 : decode c_L_law 975 = .ok (.aload_n 0, 1) := by decide +kernel
theorem d_L_law_976 : decode c_L_law 976 = .ok (.iload 4, 2) := by decide +kernel
theorem d_L_law_978 : decode c_L_law 978 = .ok (.iconst 2, 1) := by decide +kernel
theorem d_L_law_979 : decode c_L_law 979 = .ok (.iadd, 1) := by decide +kernel
theorem d_L_law_980 : decode c_L_law 980 = .ok (.iaload, 1) := by decide +kernel
theorem d_L_law_981 : decode c_L_law 981 = .ok (.aload_n 0, 1) := by decide +kernel
theorem d_L_law_982 : decode c_L_law 982 = .ok (.iload 4, 2) := by decide +kernel
theorem d_L_law_984 : decode c_L_law 984 = .ok (.iconst 3, 1) := by decide +kernel
theorem d_L_law_985 : decode c_L_law 985 = .ok (.iadd, 1) := by decide +kernel
theorem d_L_law_986 : decode c_L_law 986 = .ok (.iaload, 1) := by decide +kernel
theorem d_L_law_987 : decode c_L_law 987 = .ok (.i2l, 1) := by decide +kernel
theorem d_L_law_988 : decode c_L_law 988 = .ok (.bipush 32, 2) := by decide +kernel
theorem d_L_law_990 : decode c_L_law 990 = .ok (.lshl, 1) := by decide +kernel
theorem d_L_law_991 : decode c_L_law 991 = .ok (.aload_n 0, 1) := by decide +kernel
theorem d_L_law_992 : decode c_L_law 992 = .ok (.iload 4, 2) := by decide +kernel
theorem d_L_law_994 : decode c_L_law 994 = .ok (.iconst 4, 1) := by decide +kernel
theorem d_L_law_995 : decode c_L_law 995 = .ok (.iadd, 1) := by decide +kernel
theorem d_L_law_996 : decode c_L_law 996 = .ok (.iaload, 1) := by decide +kernel
theorem d_L_law_997 : decode c_L_law 997 = .ok (.i2l, 1) := by decide +kernel
theorem d_L_law_998 : decode c_L_law 998 = .ok (.ldc2_w 146, 3) := by decide +kernel
theorem d_L_law_1001 : decode c_L_law 1001 = .ok (.land, 1) := by decide +kernel
theorem d_L_law_1002 : decode c_L_law 1002 = .ok (.lor, 1) := by decide +kernel
theorem d_L_law_1003 : decode c_L_law 1003 = .ok (.invokevirtual 151, 3) := by decide +kernel
theorem d_L_law_1006 : decode c_L_law 1006 = .ok (.aload_n 2, 1) := by decide +kernel
theorem d_L_law_1007 : decode c_L_law 1007 = .ok (.invokevirtual 103, 3) := by decide +kernel
theorem d_L_law_1010 : decode c_L_law 1010 = .ok (.iload 5, 2) := by decide +kernel
theorem d_L_law_1012 : decode c_L_law 1012 = .ok (.if_icmp .eq 5, 3) := by decide +kernel
theorem d_L_law_1015 : decode c_L_law 1015 = .ok (.iconst 0, 1) := by decide +kernel
theorem d_L_law_1016 : decode c_L_law 1016 = .ok (.ireturn, 1) := by decide +kernel
theorem d_L_law_1017 : decode c_L_law 1017 = .ok (.goto 512, 3) := by decide +kernel
theorem d_L_law_1020 : decode c_L_law 1020 = .ok (.aload_n 1, 1) := by decide +kernel
theorem d_L_law_1021 : decode c_L_law 1021 = .ok (.aload_n 0, 1) := by decide +kernel
theorem d_L_law_1022 : decode c_L_law 1022 = .ok (.iload 4, 2) := by decide +kernel
theorem d_L_law_1024 : decode c_L_law 1024 = .ok (.iconst 1, 1) := by decide +kernel
theorem d_L_law_1025 : decode c_L_law 1025 = .ok (.iadd, 1) := by decide +kernel
theorem d_L_law_1026 : decode c_L_law 1026 = .ok (.iaload, 1) := by decide +kernel
theorem d_L_law_1027 : decode c_L_law 1027 = .ok (.aload_n 3, 1) := by decide +kernel
theorem d_L_law_1028 : decode c_L_law 1028 = .ok (.invokestatic 152, 3) := by decide +kernel
theorem d_L_law_1031 : decode c_L_law 1031 = .ok (.istore 5, 2) := by decide +kernel
theorem d_L_law_1033 : decode c_L_law 1033 = .ok (.aload_n 2, 1) := by decide +kernel
theorem d_L_law_1034 : decode c_L_law 1034 = .ok (.aload_n 0, 1) := by decide +kernel
theorem d_L_law_1035 : decode c_L_law 1035 = .ok (.iload 4, 2) := by decide +kernel
theorem d_L_law_1037 : decode c_L_law 1037 = .ok (.iconst 1, 1) := by decide +kernel
theorem d_L_law_1038 : decode c_L_law 1038 = .ok (.iadd, 1) := by decide +kernel
theorem d_L_law_1039 : decode c_L_law 1039 = .ok (.iaload, 1) := by decide +kernel
theorem d_L_law_1040 : decode c_L_law 1040 = .ok (.invokevirtual 155, 3) := by decide +kernel
theorem d_L_law_1043 : decode c_L_law 1043 = .ok (.istore 6, 2) := by decide +kernel
theorem d_L_law_1045 : decode c_L_law 1045 = .ok (.aload_n 2, 1) := by decide +kernel
theorem d_L_law_1046 : decode c_L_law 1046 = .ok (.invokevirtual 103, 3) := by decide +kernel
theorem d_L_law_1049 : decode c_L_law 1049 = .ok (.iload 5, 2) := by decide +kernel
